/-- page and notes stand for the reference's map; the batch is the same on both sides; both count the same entries -/
def i_Rel (_ : Nat) (u : SX) (v : SY) : Prop :=
  ∃ (w : Nat) (h vl bK bV bP oH oV : Nat → Int32), w ≤ 6 ∧ dt_E h ≤ 60 ∧ (∀ j, j < 4096 → h j = 0 → vl j = 0) ∧ dt_B w bK bP ∧ dt_XS u h vl (nI w) (nI (dt_E h)) bK bV bP ∧ v = (nI (dt_E h), nI w, h, vl, bP, bK, bV, oH, oV)
theorem i_up {k : Nat} {u : SX} {v : SY} (h : i_Rel k u v) : i_Rel (k + 4) u v := h
theorem i_vc0 : wpX_init (fun u => wpY_init (fun v => i_Rel 0 u v)) := by
  have e : dt_E (fun _ => 0) = 0 := dt_sm_0 (fun j _ => if_pos rfl)
  unfold wpX_init wpY_init
  refine ⟨0, fun _ => 0, fun _ => 0, fun _ => 0, fun _ => 0, fun _ => 0, fun _ => 0, fun _ => 0, by omega, by omega, fun _ _ _ => rfl, fun i hi => by omega, ⟨0, 0, 0, fun _ => 0, fun _ => 0, fun _ => 0, fun _ => 0, fun _ => 0, Or.inl rfl, by omega, by omega, ⟨fun p hp => by omega, fun k hk => Or.inl ⟨rfl, rfl⟩⟩, ?_⟩, ?_⟩
  · rw [e]; rfl
  · rw [e]; rfl
theorem i_vc_put {k : Nat} {u : SX} {v : SY} (I : i_Rel k u v) (hk : k + 4 ≤ 2048) (v1 : Int32) (v2 : Int32) : wpX_put (fun r u' => wpY_put (fun r' v' => r' = r ∧ i_Rel (k + 4) u' v') v v1 v2) u v1 v2 := by
  obtain ⟨w, h, vl, bK, bV, bP, oH, oV, hw, hE, h0, hB, X, rfl⟩ := I
  have h01 := dt_XS_01 X
  rcases dt_rng v1 with ⟨o, no⟩ | ⟨j, hj, rfl⟩
  · exact dt_Xput_out o (dt_Yput_out o ⟨rfl, w, h, vl, bK, bV, bP, oH, oV, hw, hE, h0, hB, X, rfl⟩)
  · refine dt_Xput X hE hj (fun z c => ?_) (fun c u' X' => ?_)
    · refine dt_Yput hE hj (h01 j hj) (fun _ _ => ⟨rfl, w, h, vl, bK, bV, bP, oH, oV, hw, hE, h0, hB, X, rfl⟩) (fun d => ?_)
      rcases d with d | d
      · rw [z] at d; exact absurd d (by decide)
      · omega
    · refine dt_Yput hE hj (h01 j hj) (fun z d => ?_) (fun _ => ⟨rfl, w, upd h j 1, upd vl j v2, bK, bV, bP, oH, oV, hw, dt_E_1 hj (h01 j hj) hE c, dt_0up h0 (fun y => absurd y (by decide)), hB, X', rfl⟩)
      rcases c with c | c
      · rw [z] at c; exact absurd c (by decide)
      · omega
theorem i_vc_remove {k : Nat} {u : SX} {v : SY} (I : i_Rel k u v) (hk : k + 4 ≤ 2048) (v1 : Int32) : wpX_remove (fun r u' => wpY_remove (fun r' v' => r' = r ∧ i_Rel (k + 4) u' v') v v1) u v1 := by
  obtain ⟨w, h, vl, bK, bV, bP, oH, oV, hw, hE, h0, hB, X, rfl⟩ := I
  have h01 := dt_XS_01 X
  rcases dt_rng v1 with ⟨o, no⟩ | ⟨j, hj, rfl⟩
  · exact dt_Xremove (dt_erase_out X no (dt_Yremove_out o ⟨rfl, w, h, vl, bK, bV, bP, oH, oV, hw, hE, h0, hB, X, rfl⟩))
  · refine dt_Xremove (dt_erase X hE hj (fun z => ?_) (fun z u' X' => ?_))
    · refine dt_Yremove hj (h01 j hj) (fun _ => ⟨rfl, w, h, vl, bK, bV, bP, oH, oV, hw, hE, h0, hB, X, rfl⟩) (fun d => ?_)
      rw [z] at d; exact absurd d (by decide)
    · refine dt_Yremove hj (h01 j hj) (fun d => ?_) (fun _ => ⟨rfl, w, upd h j 0, upd vl j 0, bK, bV, bP, oH, oV, hw, ?_, dt_0up h0 (fun _ => rfl), hB, X', rfl⟩)
      · rw [z] at d; exact absurd d (by decide)
      · have := dt_E_sub hj z
        omega
theorem i_vc_get {k : Nat} {u : SX} {v : SY} (I : i_Rel k u v) (hk : k + 4 ≤ 2048) (v1 : Int32) : wpX_get (fun r => wpY_get (fun r' => r' = r ∧ i_Rel (k + 4) u v) v v1) u v1 := by
  have I0 := I
  obtain ⟨w, h, vl, bK, bV, bP, oH, oV, hw, hE, h0, hB, X, rfl⟩ := I
  rcases dt_rng v1 with ⟨o, no⟩ | ⟨j, hj, rfl⟩
  · exact dt_Xget_out X no (dt_Yget_out o ⟨rfl, I0⟩)
  · exact dt_Xget X hj (h0 j hj) (dt_Yget hj ⟨rfl, I0⟩)
theorem i_vc_has {k : Nat} {u : SX} {v : SY} (I : i_Rel k u v) (hk : k + 4 ≤ 2048) (v1 : Int32) : wpX_has (fun r => wpY_has (fun r' => r' = r ∧ i_Rel (k + 4) u v) v v1) u v1 := by
  have I0 := I
  obtain ⟨w, h, vl, bK, bV, bP, oH, oV, hw, hE, h0, hB, X, rfl⟩ := I
  rcases dt_rng v1 with ⟨o, no⟩ | ⟨j, hj, rfl⟩
  · exact dt_Xhas_out X no (dt_Yhas_out o ⟨rfl, I0⟩)
  · refine dt_Xhas X hj (fun z => dt_Yhas hj (fun _ => ⟨rfl, I0⟩) (fun d => absurd z d)) (fun z => dt_Yhas hj (fun d => ?_) (fun _ => ⟨rfl, I0⟩))
    rw [z] at d; exact absurd d (by decide)
theorem i_vc_next {k : Nat} {u : SX} {v : SY} (I : i_Rel k u v) (hk : k + 4 ≤ 2048) (v1 : Int32) : wpX_next (fun r => wpY_next (fun r' => r' = r ∧ i_Rel (k + 4) u v) v v1) u v1 := by
  have I0 := I
  obtain ⟨w, h, vl, bK, bV, bP, oH, oV, hw, hE, h0, hB, X, rfl⟩ := I
  exact dt_Xnext X fun r a => dt_Ynext (dt_XS_01 X) fun r' b => ⟨dt_Nx_u a b, I0⟩
theorem i_vc_previous {k : Nat} {u : SX} {v : SY} (I : i_Rel k u v) (hk : k + 4 ≤ 2048) (v1 : Int32) : wpX_previous (fun r => wpY_previous (fun r' => r' = r ∧ i_Rel (k + 4) u v) v v1) u v1 := by
  have I0 := I
  obtain ⟨w, h, vl, bK, bV, bP, oH, oV, hw, hE, h0, hB, X, rfl⟩ := I
  exact dt_Xprev X fun r a => dt_Yprev (dt_XS_01 X) fun r' b => ⟨dt_Pv_u a b, I0⟩
theorem i_vc_count {k : Nat} {u : SX} {v : SY} (I : i_Rel k u v) (hk : k + 4 ≤ 2048) (v1 : Int32) (v2 : Int32) : wpX_count (fun r => wpY_count (fun r' => r' = r ∧ i_Rel (k + 4) u v) v v1 v2) u v1 v2 := by
  have I0 := I
  obtain ⟨w, h, vl, bK, bV, bP, oH, oV, hw, hE, h0, hB, X, rfl⟩ := I
  exact dt_Xcount X (dt_Ycount ⟨rfl, I0⟩)
theorem i_vc_swap {k : Nat} {u : SX} {v : SY} (I : i_Rel k u v) (hk : k + 4 ≤ 2048) (v1 : Int32) (v2 : Int32) (v3 : Int32) : wpX_swap (fun r u' => wpY_swap (fun r' v' => r' = r ∧ i_Rel (k + 4) u' v') v v1 v2 v3) u v1 v2 v3 := by
  obtain ⟨w, h, vl, bK, bV, bP, oH, oV, hw, hE, h0, hB, X, rfl⟩ := I
  have h01 := dt_XS_01 X
  rcases dt_rng v1 with ⟨o, no⟩ | ⟨j, hj, rfl⟩
  · exact dt_Xswap_out X no (dt_Yswap_out o ⟨rfl, w, h, vl, bK, bV, bP, oH, oV, hw, hE, h0, hB, X, rfl⟩)
  · refine dt_Xswap X hE hj (fun n => ?_) (fun z c u' X' => ?_)
    · exact dt_Yswap hj (h01 j hj) (fun _ => ⟨rfl, w, h, vl, bK, bV, bP, oH, oV, hw, hE, h0, hB, X, rfl⟩) (fun z c => absurd ⟨z, c⟩ n)
    · refine dt_Yswap hj (h01 j hj) (fun n => absurd ⟨z, c⟩ n) (fun _ _ => ⟨rfl, w, h, upd vl j v3, bK, bV, bP, oH, oV, hw, hE, ?_, hB, X', rfl⟩)
      intro i hi y
      by_cases d : i = j
      · subst d; rw [z] at y; exact absurd y (by decide)
      · rw [pk_un d]; exact h0 i hi y
theorem i_vc_stage {k : Nat} {u : SX} {v : SY} (I : i_Rel k u v) (hk : k + 4 ≤ 2048) (v1 : Int32) (v2 : Int32) (v3 : Int32) : wpX_stage (fun r u' => wpY_stage (fun r' v' => r' = r ∧ i_Rel (k + 4) u' v') v (lw_bz v1) v2 v3) u (lw_bz v1) v2 v3 := by
  obtain ⟨w, h, vl, bK, bV, bP, oH, oV, hw, hE, h0, hB, X, rfl⟩ := I
  have hb := lw_bz_01 v1
  rcases dt_rng v2 with ⟨o, no⟩ | ⟨j, hj, rfl⟩
  · exact dt_Xstage_out o (dt_Ystage_out o ⟨rfl, w, h, vl, bK, bV, bP, oH, oV, hw, hE, h0, hB, X, rfl⟩)
  · refine dt_Xstage X hw hj hb (fun z => ?_) (fun z u' X' => ?_)
    · exact dt_Ystage hw hj hb (fun _ => ⟨rfl, w, h, vl, bK, bV, bP, oH, oV, hw, hE, h0, hB, X, rfl⟩) (fun c => by omega)
    · exact dt_Ystage hw hj hb (fun c => by omega) (fun _ => ⟨rfl, w + 1, h, vl, _, _, _, oH, oV, by omega, hE, h0, dt_B_s hB hj hb, X', rfl⟩)
theorem i_vc_commit {k : Nat} {u : SX} {v : SY} (I : i_Rel k u v) (hk : k + 4 ≤ 2048) : wpX_commit (fun r u' => wpY_commit (fun r' v' => r' = r ∧ i_Rel (k + 4) u' v') v) u := by
  obtain ⟨w, h, vl, bK, bV, bP, oH, oV, hw, hE, h0, hB, X, rfl⟩ := I
  have h01 := dt_XS_01 X
  refine dt_Xcommit X hE hw hB h0 (fun T u' X' => ?_) (fun F u' X' => ?_)
  · refine dt_Ycommit hE hw hB h01 h0 (fun _ oH oV => ⟨rfl, 0, h, vl, bK, bV, bP, oH, oV, by omega, hE, h0, fun i hi => by omega, X', rfl⟩) (fun F => ?_)
    obtain ⟨i, hi, c⟩ := T
    have := F i hi
    omega
  · refine dt_Ycommit hE hw hB h01 h0 (fun T => ?_) (fun _ oH oV => ⟨rfl, 0, dt_H h bK bP w, dt_V vl bK bV bP w, bK, bV, bP, oH, oV, by omega, F w (Nat.le_refl _), dt_V_0 hB h0 w (Nat.le_refl _), fun i hi => by omega, X', rfl⟩)
    obtain ⟨i, hi, c⟩ := T
    have := F i hi
    omega
theorem i_vc_tidy {k : Nat} {u : SX} {v : SY} (I : i_Rel k u v) (hk : k + 4 ≤ 2048) : wpX_tidy (fun u' => wpY_tidy (fun v' => i_Rel (k + 4) u' v') v) u := by
  obtain ⟨w, h, vl, bK, bV, bP, oH, oV, hw, hE, h0, hB, X, rfl⟩ := I
  exact dt_Xtidy X hE fun u' X' => dt_Ytidy ⟨w, h, vl, bK, bV, bP, oH, oV, hw, hE, h0, hB, X', rfl⟩

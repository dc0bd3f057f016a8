/-! X's changes, over the map -/
def dt_XS (u : SX) (h v : Nat → Int32) (wt hd : Int32) (bK bV bP : Nat → Int32) : Prop :=
  ∃ (ps sz nc : Nat) (pK pV nK nV nP : Nat → Int32), (ps = 0 ∨ ps = 60) ∧ sz ≤ 60 ∧ nc ≤ 16 ∧ dt_Rep ps sz nc pK pV nK nV nP h v ∧ u = (nI ps, nI sz, nI nc, wt, hd, pK, pV, nK, nV, nP, bK, bV, bP)
theorem dt_rng (x : Int32) : ((x < 0 ∨ ¬ x ≤ 4095) ∧ ∀ k, k < 4096 → x ≠ nI k) ∨ ∃ k, k < 4096 ∧ x = nI k := by
  by_cases h0 : x < 0
  · refine Or.inl ⟨Or.inl h0, fun k hk e => ?_⟩
    rw [e] at h0
    exact nI_pos (by omega) h0
  · obtain ⟨j, hj, rfl⟩ := nI_of h0
    by_cases h1 : j < 4096
    · exact Or.inr ⟨j, h1, rfl⟩
    · refine Or.inl ⟨Or.inr (nI_ge (a := 4095) (b := j) (by omega) hj), fun k hk e => ?_⟩
      rw [nI_eq hj (by omega)] at e
      omega
section
variable {u : SX} {h v bK bV bP : Nat → Int32} {wt hd : Int32}
theorem dt_oor_t {post : Int32 → Prop} {x : Int32} (o : x < 0 ∨ ¬ x ≤ 4095) (K : post 1) : wpX_isOutOfRange post u x := by
  obtain ⟨a1, a2, a3, a4, a5, a6, a7, a8, a9, a10, a11, a12, a13⟩ := u
  unfold wpX_isOutOfRange
  by_cases h0 : x < 0
  · exact br_t h0 K
  · rcases o with o | o
    · exact absurd o h0
    · exact br_f h0 (br_f o K)
theorem dt_oor_f {post : Int32 → Prop} {k : Nat} (hk : k < 4096) (K : post 0) : wpX_isOutOfRange post u (nI k) := by
  obtain ⟨a1, a2, a3, a4, a5, a6, a7, a8, a9, a10, a11, a12, a13⟩ := u
  unfold wpX_isOutOfRange
  exact br_f (nI_pos (by omega)) (br_t (nI_le (b := 4095) (by omega) (by decide)) K)
theorem dt_bad_t {post : Int32 → Prop} {x : Int32} (o : x < 0 ∨ ¬ x ≤ 4095) (K : post 1) : wpY_bad post x := by
  unfold wpY_bad
  by_cases h0 : x < 0
  · exact br_t h0 K
  · rcases o with o | o
    · exact absurd o h0
    · exact br_f h0 (br_f o K)
theorem dt_bad_f {post : Int32 → Prop} {k : Nat} (hk : k < 4096) (K : post 0) : wpY_bad post (nI k) := by
  unfold wpY_bad
  exact br_f (nI_pos (by omega)) (br_t (nI_le (b := 4095) (by omega) (by decide)) K)
theorem dt_hang {post : SX → Prop} {k : Nat} {b x y : Int32} (X : dt_XS u h v wt hd bK bV bP) (hE : dt_E h ≤ 60) (hk : k < 4096) (hb : b = 0 ∨ (b = 1 ∧ x = y))
    (K : ∀ u', dt_XS u' (upd h k b) (upd v k y) wt hd bK bV bP → post u') : wpX_hangNote post u b (nI k) x := by
  obtain ⟨ps, sz, nc, pK, pV, nK, nV, nP, hs, hz, hn, R, rfl⟩ := X
  have hb' : b = 0 ∨ b = 1 := by
    rcases hb with z | z
    · exact Or.inl z
    · exact Or.inr z.1
  by_cases c : nc < 16
  · exact dt_hangS hb' c (K _ ⟨ps, sz, nc + 1, pK, pV, _, _, _, hs, hz, by omega, dt_Rep_note R hk hb, rfl⟩)
  · unfold wpX_hangNote
    refine br_f (nI_nlt (b := 16) (by omega) (by omega)) (dt_anew R hs hz hn hE fun s qK qV hs6 R' => ?_)
    exact dt_hang13 (nc := 0) hb' (by omega) (K _ ⟨60 - ps, s, 0 + 1, qK, qV, _, _, _, by omega, hs6, by omega, dt_Rep_note R' hk hb, rfl⟩)
theorem dt_write {post : Int32 → SX → Prop} {k : Nat} {x : Int32} (X : dt_XS u h v wt (nI (dt_E h)) bK bV bP) (hE : dt_E h ≤ 60) (hk : k < 4096)
    (K : ∀ u', dt_XS u' (upd h k 1) (upd v k x) wt (nI (dt_E (upd h k 1))) bK bV bP → post (if h k = 0 then 1 else 0) u') : wpX_write post u (nI k) x := by
  have X0 := X
  obtain ⟨ps, sz, nc, pK, pV, nK, nV, nP, hs, hz, hn, R, rfl⟩ := X
  unfold wpX_write
  rcases R.2 k hk with ⟨z, hp⟩ | ⟨z, p, hp, _⟩
  · refine dt_placeOf hs hz hn hp (br_t rfl ?_)
    rw [if_pos z, dt_E_add hk z] at K
    unfold wX_write_14
    refine dt_hang X0 hE hk (Or.inr ⟨rfl, rfl⟩) fun u' X' => ?_
    obtain ⟨ps', sz', nc', pK', pV', nK', nV', nP', hs', hz', hn', R', rfl⟩ := X'
    exact nm_r (nI_1 _) (K _ ⟨ps', sz', nc', pK', pV', nK', nV', nP', hs', hz', hn', R', rfl⟩)
  · have hp1 := (dt_pl_some hp).1
    refine dt_placeOf hs hz hn hp (br_f (dt_m1 (by omega)) ?_)
    rw [if_neg (by rw [z]; decide), show dt_E (upd h k 1) = dt_E h by rw [dt_E_same z]] at K
    unfold wX_write_14
    refine dt_hang X0 hE hk (Or.inr ⟨rfl, rfl⟩) fun u' X' => ?_
    obtain ⟨ps', sz', nc', pK', pV', nK', nV', nP', hs', hz', hn', R', rfl⟩ := X'
    exact nm_r (Int32.add_zero _) (K _ ⟨ps', sz', nc', pK', pV', nK', nV', nP', hs', hz', hn', R', rfl⟩)
theorem dt_erase {post : Int32 → SX → Prop} {k : Nat} (X : dt_XS u h v wt (nI (dt_E h)) bK bV bP) (hE : dt_E h ≤ 60) (hk : k < 4096)
    (K0 : h k = 0 → post 0 u) (K1 : h k = 1 → ∀ u', dt_XS u' (upd h k 0) (upd v k 0) wt (nI (dt_E (upd h k 0))) bK bV bP → post 1 u') : wpX_erase post u (nI k) := by
  have X0 := X
  obtain ⟨ps, sz, nc, pK, pV, nK, nV, nP, hs, hz, hn, R, rfl⟩ := X
  unfold wpX_erase
  rcases R.2 k hk with ⟨z, hp⟩ | ⟨z, p, hp, _⟩
  · exact dt_placeOf hs hz hn hp (br_t rfl (K0 z))
  · have hp1 := (dt_pl_some hp).1
    have K := K1 z
    refine dt_placeOf hs hz hn hp (br_f (dt_m1 (by omega)) ?_)
    refine dt_hang X0 hE hk (y := 0) (Or.inl rfl) fun u' X' => ?_
    obtain ⟨ps', sz', nc', pK', pV', nK', nV', nP', hs', hz', hn', R', rfl⟩ := X'
    refine nm_r (e' := nI (dt_E (upd h k 0))) ?_ (K _ ⟨ps', sz', nc', pK', pV', nK', nV', nP', hs', hz', hn', R', rfl⟩)
    rw [← dt_E_sub hk z, nI_pred]
theorem dt_erase_out {post : Int32 → SX → Prop} {x : Int32} (X : dt_XS u h v wt hd bK bV bP) (hk : ∀ k, k < 4096 → x ≠ nI k) (K0 : post 0 u) : wpX_erase post u x := by
  obtain ⟨ps, sz, nc, pK, pV, nK, nV, nP, hs, hz, hn, R, rfl⟩ := X
  unfold wpX_erase
  exact dt_placeOf hs hz hn (dt_Rep_out R hk) (br_t rfl K0)
theorem dt_Xput {post : Int32 → SX → Prop} {k : Nat} {x : Int32} (X : dt_XS u h v wt (nI (dt_E h)) bK bV bP) (hE : dt_E h ≤ 60) (hk : k < 4096)
    (K0 : h k = 0 → dt_E h = 60 → post (-1) u)
    (K1 : h k = 1 ∨ dt_E h < 60 → ∀ u', dt_XS u' (upd h k 1) (upd v k x) wt (nI (dt_E (upd h k 1))) bK bV bP → post (if h k = 0 then 1 else 0) u') : wpX_put post u (nI k) x := by
  have X0 := X
  obtain ⟨ps, sz, nc, pK, pV, nK, nV, nP, hs, hz, hn, R, rfl⟩ := X
  have W : h k = 1 ∨ dt_E h < 60 → wX_put_30 post (nI k) x (nI ps) (nI sz) (nI nc) wt (nI (dt_E h)) pK pV nK nV nP bK bV bP := by
    intro c
    unfold wX_put_30
    refine dt_write X0 hE hk fun u' X' => ?_
    have K := K1 c u' X'
    obtain ⟨ps', sz', nc', pK', pV', nK', nV', nP', hs', hz', hn', R', rfl⟩ := X'
    exact K
  unfold wpX_put
  refine dt_oor_f hk (br_t rfl ?_)
  by_cases c : dt_E h < 60
  · exact br_t (nI_lt (b := 60) c (by decide)) (W (Or.inr c))
  · refine br_f (nI_nlt (b := 60) (by omega) (by omega)) ?_
    rcases R.2 k hk with ⟨z, hp⟩ | ⟨z, p, hp, _⟩
    · exact dt_placeOf hs hz hn hp (br_t rfl (K0 z (by omega)))
    · have hp1 := (dt_pl_some hp).1
      exact dt_placeOf hs hz hn hp (br_f (dt_m1 (by omega)) (W (Or.inl z)))
theorem dt_Xremove {post : Int32 → SX → Prop} {x : Int32} (K : wpX_erase post u x) : wpX_remove post u x := by
  obtain ⟨a1, a2, a3, a4, a5, a6, a7, a8, a9, a10, a11, a12, a13⟩ := u
  unfold wpX_remove
  exact K
theorem dt_Xget {post : Int32 → Prop} {k : Nat} (X : dt_XS u h v wt hd bK bV bP) (hk : k < 4096) (h0 : h k = 0 → v k = 0) (K : post (v k)) : wpX_get post u (nI k) := by
  obtain ⟨ps, sz, nc, pK, pV, nK, nV, nP, hs, hz, hn, R, rfl⟩ := X
  unfold wpX_get
  rcases R.2 k hk with ⟨z, hp⟩ | ⟨z, p, hp, hv⟩
  · rw [h0 z] at K
    exact dt_placeOf hs hz hn hp (br_t rfl K)
  · have hp1 := (dt_pl_some hp).1
    exact dt_placeOf hs hz hn hp (br_f (dt_m1 (by omega)) (dt_valueAt hs hz hn hp1 hv K))
theorem dt_Xget_out {post : Int32 → Prop} {x : Int32} (X : dt_XS u h v wt hd bK bV bP) (hk : ∀ k, k < 4096 → x ≠ nI k) (K : post 0) : wpX_get post u x := by
  obtain ⟨ps, sz, nc, pK, pV, nK, nV, nP, hs, hz, hn, R, rfl⟩ := X
  unfold wpX_get
  exact dt_placeOf hs hz hn (dt_Rep_out R hk) (br_t rfl K)
theorem dt_Xhas {post : Int32 → Prop} {k : Nat} (X : dt_XS u h v wt hd bK bV bP) (hk : k < 4096) (K0 : h k = 0 → post 0) (K1 : h k = 1 → post 1) : wpX_has post u (nI k) := by
  obtain ⟨ps, sz, nc, pK, pV, nK, nV, nP, hs, hz, hn, R, rfl⟩ := X
  unfold wpX_has
  rcases R.2 k hk with ⟨z, hp⟩ | ⟨z, p, hp, hv⟩
  · exact dt_placeOf hs hz hn hp (br_t rfl (K0 z))
  · have hp1 := (dt_pl_some hp).1
    exact dt_placeOf hs hz hn hp (br_f (dt_m1 (by omega)) (K1 z))
theorem dt_Xhas_out {post : Int32 → Prop} {x : Int32} (X : dt_XS u h v wt hd bK bV bP) (hk : ∀ k, k < 4096 → x ≠ nI k) (K : post 0) : wpX_has post u x := by
  obtain ⟨ps, sz, nc, pK, pV, nK, nV, nP, hs, hz, hn, R, rfl⟩ := X
  unfold wpX_has
  exact dt_placeOf hs hz hn (dt_Rep_out R hk) (br_t rfl K)
theorem dt_Xswap_out {post : Int32 → SX → Prop} {x y z : Int32} (X : dt_XS u h v wt hd bK bV bP) (hk : ∀ k, k < 4096 → x ≠ nI k) (K : post 0 u) : wpX_swap post u x y z := by
  obtain ⟨ps, sz, nc, pK, pV, nK, nV, nP, hs, hz, hn, R, rfl⟩ := X
  unfold wpX_swap
  exact dt_placeOf hs hz hn (dt_Rep_out R hk) (br_t rfl K)
theorem dt_Xswap {post : Int32 → SX → Prop} {k : Nat} {y x : Int32} (X : dt_XS u h v wt (nI (dt_E h)) bK bV bP) (hE : dt_E h ≤ 60) (hk : k < 4096)
    (K0 : ¬ (h k = 1 ∧ v k = y) → post 0 u) (K1 : h k = 1 → v k = y → ∀ u', dt_XS u' h (upd v k x) wt (nI (dt_E h)) bK bV bP → post 1 u') : wpX_swap post u (nI k) y x := by
  have X0 := X
  obtain ⟨ps, sz, nc, pK, pV, nK, nV, nP, hs, hz, hn, R, rfl⟩ := X
  unfold wpX_swap
  rcases R.2 k hk with ⟨z, hp⟩ | ⟨z, p, hp, hv⟩
  · exact dt_placeOf hs hz hn hp (br_t rfl (K0 (fun c => by rw [z] at c; exact absurd c.1 (by decide))))
  · have hp1 := (dt_pl_some hp).1
    refine dt_placeOf hs hz hn hp (br_f (dt_m1 (by omega)) (dt_valueAt hs hz hn hp1 hv ?_))
    by_cases c : v k = y
    · refine br_t c (dt_write X0 hE hk fun u' X' => ?_)
      rw [dt_E_same z] at X'
      have K := K1 z c u' X'
      obtain ⟨ps', sz', nc', pK', pV', nK', nV', nP', hs', hz', hn', R', rfl⟩ := X'
      exact K
    · exact br_f c (K0 (fun w => c w.2))
theorem dt_Xtidy {post : SX → Prop} (X : dt_XS u h v wt hd bK bV bP) (hE : dt_E h ≤ 60) (K : ∀ u', dt_XS u' h v wt hd bK bV bP → post u') : wpX_tidy post u := by
  obtain ⟨ps, sz, nc, pK, pV, nK, nV, nP, hs, hz, hn, R, rfl⟩ := X
  unfold wpX_tidy
  exact dt_anew R hs hz hn hE fun s qK qV hs6 R' => K _ ⟨60 - ps, s, 0, qK, qV, nK, nV, nP, by omega, hs6, by omega, R', rfl⟩
end

/-! X's next, previous, count -/
section
variable {pK pV nK nV nP bK bV bP h v : Nat → Int32} {ps sz nc : Nat} {wt hd : Int32}
theorem dt_Ls_end (R : dt_Rep ps sz nc pK pV nK nV nP h v) {f l : Int32} (I : dt_Ls (dt_at pK ps sz nK) h f (sz + nc) l) : dt_Nx h f l := by
  have W : ∀ k, k < 4096 → h k = 1 → ∃ q, q < sz + nc ∧ dt_at pK ps sz nK q = nI k := by
    intro k hk hh
    rcases R.2 k hk with ⟨z, _⟩ | ⟨_, q, hq, _⟩
    · rw [z] at hh; exact absurd hh (by decide)
    · exact ⟨q, dt_pl_some hq⟩
  rcases I with ⟨e, a⟩ | ⟨j, hj, e, h1, h2, a⟩
  · refine Or.inl ⟨e, fun k hk hh => ?_⟩
    obtain ⟨q, hq, eq⟩ := W k hk hh
    exact a q hq k hk eq hh
  · refine Or.inr ⟨j, hj, e, h1, h2, fun k hk hh nf => ?_⟩
    obtain ⟨q, hq, eq⟩ := W k hk hh
    exact a q hq k hk eq hh nf
theorem dt_Gs_end (R : dt_Rep ps sz nc pK pV nK nV nP h v) {f l : Int32} (I : dt_Gs (dt_at pK ps sz nK) h f (sz + nc) l) : dt_Pv h f l := by
  have W : ∀ k, k < 4096 → h k = 1 → ∃ q, q < sz + nc ∧ dt_at pK ps sz nK q = nI k := by
    intro k hk hh
    rcases R.2 k hk with ⟨z, _⟩ | ⟨_, q, hq, _⟩
    · rw [z] at hh; exact absurd hh (by decide)
    · exact ⟨q, dt_pl_some hq⟩
  rcases I with ⟨e, a⟩ | ⟨j, hj, e, h1, h2, a⟩
  · refine Or.inl ⟨e, fun k hk hh => ?_⟩
    obtain ⟨q, hq, eq⟩ := W k hk hh
    exact a q hq k hk eq hh
  · refine Or.inr ⟨j, hj, e, h1, h2, fun k hk hh nf => ?_⟩
    obtain ⟨q, hq, eq⟩ := W k hk hh
    exact a q hq k hk eq hh nf
theorem dt_x15 {post : Int32 → Prop} {f : Int32} (R : dt_Rep ps sz nc pK pV nK nV nP h v) (hs : ps = 0 ∨ ps = 60) (hz : sz ≤ 60) (hn : nc ≤ 16) (K : ∀ r, dt_Nx h f r → post r) :
    ∀ (d p : Nat) (l : Int32), p + d = sz + nc → dt_Ls (dt_at pK ps sz nK) h f p l →
    wX_next_15 post f (nI (sz + nc)) (nI ps) (nI sz) (nI nc) wt hd pK pV nK nV nP bK bV bP (d + 1) l (nI p) := by
  intro d
  induction d with
  | zero =>
    intro p l hp I
    obtain rfl : p = sz + nc := by omega
    exact br_t (nI_le (by omega) (by omega)) (K l (dt_Ls_end R I))
  | succ d ih =>
    intro p l hp I
    obtain ⟨k, hk, ek⟩ := R.1 p (by omega)
    have skip : dt_Ls (dt_at pK ps sz nK) h f (p + 1) l → wX_next_50 post (wX_next_15 post f (nI (sz + nc)) (nI ps) (nI sz) (nI nc) wt hd pK pV nK nV nP bK bV bP (d + 1)) f l (nI (sz + nc)) (nI p) (nI k) (nI ps) (nI sz) (nI nc) wt hd pK pV nK nV nP bK bV bP := by
      intro I'
      unfold wX_next_50 wX_next_51
      exact br_t rfl (nm_r (nI_1 p) (ih (p + 1) l (by omega) I'))
    have take : (∀ j, j < 4096 → l = nI j → k ≤ j) → ¬ nI k < f → wX_next_46 post (wX_next_15 post f (nI (sz + nc)) (nI ps) (nI sz) (nI nc) wt hd pK pV nK nV nP bK bV bP (d + 1)) f l (nI (sz + nc)) (nI p) (nI k) (nI ps) (nI sz) (nI nc) wt hd pK pV nK nV nP bK bV bP := by
      intro s nf
      unfold wX_next_46 wX_next_51
      refine br_f (by decide) ?_
      rcases R.2 k hk with ⟨z, hq⟩ | ⟨z, q, hq, _⟩
      · exact dt_placeOf hs hz hn hq (br_t rfl (nm_r (nI_1 p) (ih (p + 1) l (by omega) (dt_Ls_skip I ek hk (fun y => by rw [z] at y; exact absurd y (by decide))))))
      · have hq1 := (dt_pl_some hq).1
        exact dt_placeOf hs hz hn hq (br_f (dt_m1 (by omega)) (nm_r (nI_1 p) (ih (p + 1) (nI k) (by omega) (dt_Ls_take I ek hk z nf s))))
    refine br_f (nI_ge (by omega) (by omega)) (dt_keyAt hs hz hn (by omega) ek ?_)
    by_cases a : nI k < f
    · exact br_t a (skip (dt_Ls_skip I ek hk (fun _ => Or.inl a)))
    · refine br_f a ?_
      by_cases b : l = -1
      · exact br_t b (take (fun j hj e => absurd (e.symm.trans b) (dt_m1 (by omega))) a)
      · refine br_f b ?_
        have I0 := I
        rcases I0 with ⟨e, _⟩ | ⟨j, hj, e, _⟩
        · exact absurd e b
        · by_cases c : j ≤ k
          · exact br_t (by rw [e]; exact nI_le c (by omega)) (skip (dt_Ls_skip I ek hk (fun _ => Or.inr ⟨j, hj, e, c⟩)))
          · refine br_f (by rw [e]; exact nI_ge (by omega) (by omega)) (take (fun i hi ei => ?_) a)
            have := (nI_eq (by omega) (by omega)).mp (e.symm.trans ei)
            omega
theorem dt_x15p {post : Int32 → Prop} {f : Int32} (R : dt_Rep ps sz nc pK pV nK nV nP h v) (hs : ps = 0 ∨ ps = 60) (hz : sz ≤ 60) (hn : nc ≤ 16) (K : ∀ r, dt_Pv h f r → post r) :
    ∀ (d p : Nat) (l : Int32), p + d = sz + nc → dt_Gs (dt_at pK ps sz nK) h f p l →
    wX_previous_15 post f (nI (sz + nc)) (nI ps) (nI sz) (nI nc) wt hd pK pV nK nV nP bK bV bP (d + 1) l (nI p) := by
  intro d
  induction d with
  | zero =>
    intro p l hp I
    obtain rfl : p = sz + nc := by omega
    exact br_t (nI_le (by omega) (by omega)) (K l (dt_Gs_end R I))
  | succ d ih =>
    intro p l hp I
    obtain ⟨k, hk, ek⟩ := R.1 p (by omega)
    have skip : dt_Gs (dt_at pK ps sz nK) h f (p + 1) l → wX_previous_45 post (wX_previous_15 post f (nI (sz + nc)) (nI ps) (nI sz) (nI nc) wt hd pK pV nK nV nP bK bV bP (d + 1)) f l (nI (sz + nc)) (nI p) (nI k) (nI ps) (nI sz) (nI nc) wt hd pK pV nK nV nP bK bV bP := by
      intro I'
      unfold wX_previous_45 wX_previous_46
      exact br_t rfl (nm_r (nI_1 p) (ih (p + 1) l (by omega) I'))
    have take : (∀ j, j < 4096 → l = nI j → j ≤ k) → ¬ f < nI k → wX_previous_46 post (wX_previous_15 post f (nI (sz + nc)) (nI ps) (nI sz) (nI nc) wt hd pK pV nK nV nP bK bV bP (d + 1)) f l (nI (sz + nc)) (nI p) (nI k) 1 (nI ps) (nI sz) (nI nc) wt hd pK pV nK nV nP bK bV bP := by
      intro s nf
      unfold wX_previous_46
      refine br_f (by decide) ?_
      rcases R.2 k hk with ⟨z, hq⟩ | ⟨z, q, hq, _⟩
      · exact dt_placeOf hs hz hn hq (br_t rfl (nm_r (nI_1 p) (ih (p + 1) l (by omega) (dt_Gs_skip I ek hk (fun y => by rw [z] at y; exact absurd y (by decide))))))
      · have hq1 := (dt_pl_some hq).1
        exact dt_placeOf hs hz hn hq (br_f (dt_m1 (by omega)) (nm_r (nI_1 p) (ih (p + 1) (nI k) (by omega) (dt_Gs_take I ek hk z nf s))))
    refine br_f (nI_ge (by omega) (by omega)) (dt_keyAt hs hz hn (by omega) ek ?_)
    by_cases a : f < nI k
    · exact br_t a (skip (dt_Gs_skip I ek hk (fun _ => Or.inl a)))
    · refine br_f a ?_
      have I0 := I
      rcases I0 with ⟨e, _⟩ | ⟨j, hj, e, _⟩
      · refine br_f (fun c => ?_) (take (fun i hi ei => absurd (ei.symm.trans e) (dt_m1 (by omega))) a)
        rw [e, Int32.le_iff_toInt_le, nI_toInt (by omega), show (-1 : Int32).toInt = -1 by decide] at c
        omega
      · by_cases c : k ≤ j
        · exact br_t (by rw [e]; exact nI_le c (by omega)) (skip (dt_Gs_skip I ek hk (fun _ => Or.inr ⟨j, hj, e, c⟩)))
        · refine br_f (by rw [e]; exact nI_ge (by omega) (by omega)) (take (fun i hi ei => ?_) a)
          have := (nI_eq (by omega) (by omega)).mp (e.symm.trans ei)
          omega
theorem dt_x16 {post : Int32 → Prop} {low high : Int32} (hs : ps = 0 ∨ ps = 60) (hz : sz ≤ 60) (hn : nc ≤ 16) (K : post (nI (dt_sm (dt_lv pK ps sz nK nP nc (dt_q low high)) (sz + nc)))) :
    ∀ (d p : Nat), p + d = sz + nc →
    wX_count_16 post low high (nI (sz + nc)) (nI ps) (nI sz) (nI nc) wt hd pK pV nK nV nP bK bV bP (d + 1) (nI (dt_sm (dt_lv pK ps sz nK nP nc (dt_q low high)) p)) (nI p) := by
  intro d
  induction d with
  | zero =>
    intro p hp
    obtain rfl : p = sz + nc := by omega
    exact br_t (nI_le (by omega) (by omega)) K
  | succ d ih =>
    intro p hp
    have W := ih (p + 1) (by omega)
    rw [show dt_sm (dt_lv pK ps sz nK nP nc (dt_q low high)) (p + 1) = dt_sm (dt_lv pK ps sz nK nP nc (dt_q low high)) p + dt_lv pK ps sz nK nP nc (dt_q low high) p from rfl] at W
    refine br_f (nI_ge (by omega) (by omega)) (dt_keyAt hs hz hn (by omega) rfl ?_)
    by_cases a : dt_at pK ps sz nK p < low
    · rw [show dt_lv pK ps sz nK nP nc (dt_q low high) p = 0 from if_neg (fun c => dt_q_lo a c.2)] at W
      exact br_t a (nm_r (nI_1 p) W)
    · refine br_f a ?_
      by_cases b : high < dt_at pK ps sz nK p
      · rw [show dt_lv pK ps sz nK nP nc (dt_q low high) p = 0 from if_neg (fun c => dt_q_hi b c.2)] at W
        exact br_t b (nm_r (nI_1 p) W)
      · refine br_f b (dt_placeOf hs hz hn rfl ?_)
        have hb : ∀ q, dt_pl pK ps sz nK nP nc (dt_at pK ps sz nK p) = some q → q < 2 ^ 31 := fun q hq => by
          have := (dt_pl_some hq).1
          omega
        by_cases y : dt_pl pK ps sz nK nP nc (dt_at pK ps sz nK p) = some p
        · rw [show dt_lv pK ps sz nK nP nc (dt_q low high) p = 1 from if_pos ⟨y, dt_q_in a b⟩] at W
          exact br_t ((dt_encp (by omega) hb).mpr y) (nm_r (nI_1 _) (nm_r (nI_1 p) W))
        · rw [show dt_lv pK ps sz nK nP nc (dt_q low high) p = 0 from if_neg (fun c => y c.1)] at W
          exact br_f (fun z => y ((dt_encp (by omega) hb).mp z)) (nm_r (nI_1 p) W)
end
section
variable {u : SX} {h v bK bV bP : Nat → Int32} {wt hd : Int32}
theorem dt_Xnext {post : Int32 → Prop} {f : Int32} (X : dt_XS u h v wt hd bK bV bP) (K : ∀ r, dt_Nx h f r → post r) : wpX_next post u f := by
  obtain ⟨ps, sz, nc, pK, pV, nK, nV, nP, hs, hz, hn, R, rfl⟩ := X
  unfold wpX_next
  exact nm_r (nI_add sz nc) ⟨sz + nc + 1, dt_x15 R hs hz hn K (sz + nc) 0 (-1) (by omega) (Or.inl ⟨rfl, fun q hq => by omega⟩)⟩
theorem dt_Xprev {post : Int32 → Prop} {f : Int32} (X : dt_XS u h v wt hd bK bV bP) (K : ∀ r, dt_Pv h f r → post r) : wpX_previous post u f := by
  obtain ⟨ps, sz, nc, pK, pV, nK, nV, nP, hs, hz, hn, R, rfl⟩ := X
  unfold wpX_previous
  exact nm_r (nI_add sz nc) ⟨sz + nc + 1, dt_x15p R hs hz hn K (sz + nc) 0 (-1) (by omega) (Or.inl ⟨rfl, fun q hq => by omega⟩)⟩
theorem dt_Xcount {post : Int32 → Prop} {low high : Int32} (X : dt_XS u h v wt hd bK bV bP) (K : post (nI (dt_sm (dt_c h low high) 4096))) : wpX_count post u low high := by
  obtain ⟨ps, sz, nc, pK, pV, nK, nV, nP, hs, hz, hn, R, rfl⟩ := X
  unfold wpX_count
  have e : dt_sm (dt_lv pK ps sz nK nP nc (dt_q low high)) (sz + nc) = dt_sm (dt_c h low high) 4096 := dt_Rep_cnt R (dt_q low high)
  rw [← e] at K
  exact nm_r (nI_add sz nc) ⟨sz + nc + 1, dt_x16 hs hz hn K (sz + nc) 0 (by omega)⟩
end

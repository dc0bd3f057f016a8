/-! what is left of both sides, over a general post -/
section
variable {u : SX} {h v bK bV bP oH oV : Nat → Int32} {wt hd E : Int32}
theorem dt_XS_01 (X : dt_XS u h v wt hd bK bV bP) : ∀ k, k < 4096 → h k = 0 ∨ h k = 1 := by
  obtain ⟨ps, sz, nc, pK, pV, nK, nV, nP, hs, hz, hn, R, rfl⟩ := X
  exact fun k hk => dt_Rep_01 R hk
theorem dt_0up {j : Nat} {b y : Int32} (h0 : ∀ k, k < 4096 → h k = 0 → v k = 0) (hb : b = 0 → y = 0) : ∀ k, k < 4096 → upd h j b k = 0 → upd v j y k = 0 := by
  intro k hk
  by_cases c : k = j
  · subst c; rw [pk_us, pk_us]; exact hb
  · rw [pk_un c, pk_un c]; exact h0 k hk
theorem dt_E_1 {j : Nat} (hj : j < 4096) (h01 : h j = 0 ∨ h j = 1) (hE : dt_E h ≤ 60) (c : h j = 1 ∨ dt_E h < 60) : dt_E (upd h j 1) ≤ 60 := by
  rcases h01 with z | z
  · rw [dt_E_add hj z]
    rcases c with y | y
    · rw [z] at y; exact absurd y (by decide)
    · omega
  · rw [dt_E_same z]; exact hE
theorem dt_Xput_out {post : Int32 → SX → Prop} {x y : Int32} (o : x < 0 ∨ ¬ x ≤ 4095) (K : post (-1) u) : wpX_put post u x y := by
  obtain ⟨a1, a2, a3, a4, a5, a6, a7, a8, a9, a10, a11, a12, a13⟩ := u
  unfold wpX_put
  exact dt_oor_t o (br_f (by decide) K)
theorem dt_Yput_out {post : Int32 → SY → Prop} {u : SY} {x y : Int32} (o : x < 0 ∨ ¬ x ≤ 4095) (K : post (-1) u) : wpY_put post u x y := by
  obtain ⟨a1, a2, a3, a4, a5, a6, a7, a8, a9⟩ := u
  unfold wpY_put
  exact dt_bad_t o (br_f (by decide) K)
theorem dt_Yremove_out {post : Int32 → SY → Prop} {u : SY} {x : Int32} (o : x < 0 ∨ ¬ x ≤ 4095) (K : post 0 u) : wpY_remove post u x := by
  obtain ⟨a1, a2, a3, a4, a5, a6, a7, a8, a9⟩ := u
  unfold wpY_remove
  exact dt_bad_t o (br_f (by decide) K)
theorem dt_Yget_out {post : Int32 → Prop} {u : SY} {x : Int32} (o : x < 0 ∨ ¬ x ≤ 4095) (K : post 0) : wpY_get post u x := by
  obtain ⟨a1, a2, a3, a4, a5, a6, a7, a8, a9⟩ := u
  unfold wpY_get
  exact dt_bad_t o (br_f (by decide) K)
theorem dt_Yhas_out {post : Int32 → Prop} {u : SY} {x : Int32} (o : x < 0 ∨ ¬ x ≤ 4095) (K : post 0) : wpY_has post u x := by
  obtain ⟨a1, a2, a3, a4, a5, a6, a7, a8, a9⟩ := u
  unfold wpY_has
  exact dt_bad_t o (br_f (by decide) K)
theorem dt_Yswap_out {post : Int32 → SY → Prop} {u : SY} {x y z : Int32} (o : x < 0 ∨ ¬ x ≤ 4095) (K : post 0 u) : wpY_swap post u x y z := by
  obtain ⟨a1, a2, a3, a4, a5, a6, a7, a8, a9⟩ := u
  unfold wpY_swap
  exact dt_bad_t o (br_f (by decide) K)
theorem dt_Ystage_out {post : Int32 → SY → Prop} {u : SY} {x y z : Int32} (o : y < 0 ∨ ¬ y ≤ 4095) (K : post (-1) u) : wpY_stage post u x y z := by
  obtain ⟨a1, a2, a3, a4, a5, a6, a7, a8, a9⟩ := u
  unfold wpY_stage
  exact dt_bad_t o (br_f (by decide) K)
theorem dt_Xstage_out {post : Int32 → SX → Prop} {x y z : Int32} (o : y < 0 ∨ ¬ y ≤ 4095) (K : post (-1) u) : wpX_stage post u x y z := by
  obtain ⟨a1, a2, a3, a4, a5, a6, a7, a8, a9, a10, a11, a12, a13⟩ := u
  unfold wpX_stage
  exact dt_oor_t o (br_f (by decide) K)
theorem dt_Yget {post : Int32 → Prop} {k : Nat} (hk : k < 4096) (K : post (v k)) : wpY_get post (E, wt, h, v, bP, bK, bV, oH, oV) (nI k) := by
  have e : (nI k).toNatClampNeg = k := nI_clamp (by omega)
  have w : vp_in (nI k) 4096 := vp_in_nI hk (by omega)
  unfold wpY_get
  exact dt_bad_f hk (br_t rfl ⟨w, by rw [e]; exact K⟩)
theorem dt_Yhas {post : Int32 → Prop} {k : Nat} (hk : k < 4096) (K0 : h k = 0 → post 0) (K1 : ¬ h k = 0 → post 1) : wpY_has post (E, wt, h, v, bP, bK, bV, oH, oV) (nI k) := by
  have e : (nI k).toNatClampNeg = k := nI_clamp (by omega)
  have w : vp_in (nI k) 4096 := vp_in_nI hk (by omega)
  unfold wpY_has
  refine dt_bad_f hk (br_t rfl ⟨w, ?_⟩)
  by_cases z : h k = 0
  · exact br_t (by rw [e]; exact z) (K0 z)
  · exact br_f (by rw [e]; exact z) (K1 z)
theorem dt_Yswap {post : Int32 → SY → Prop} {k : Nat} {y x : Int32} (hk : k < 4096) (h01 : h k = 0 ∨ h k = 1)
    (K0 : ¬ (h k = 1 ∧ v k = y) → post 0 (E, wt, h, v, bP, bK, bV, oH, oV)) (K1 : h k = 1 → v k = y → post 1 (E, wt, h, upd v k x, bP, bK, bV, oH, oV)) :
    wpY_swap post (E, wt, h, v, bP, bK, bV, oH, oV) (nI k) y x := by
  have e : (nI k).toNatClampNeg = k := nI_clamp (by omega)
  have w : vp_in (nI k) 4096 := vp_in_nI hk (by omega)
  unfold wpY_swap
  refine dt_bad_f hk (br_t rfl ⟨w, ?_⟩)
  by_cases z : h k = 0
  · exact br_t (by rw [e]; exact z) (K0 (fun c => by rw [z] at c; exact absurd c.1 (by decide)))
  · refine br_f (by rw [e]; exact z) ⟨w, ?_⟩
    by_cases c : v k = y
    · exact br_t (by rw [e]; exact c) ⟨w, nm_r (e' := upd v k x) (by rw [e]) (K1 (h01.resolve_left z) c)⟩
    · exact br_f (by rw [e]; exact c) (K0 (fun d => c d.2))
theorem dt_Xstage {post : Int32 → SX → Prop} {w k : Nat} {b x : Int32} (X : dt_XS u h v (nI w) hd bK bV bP) (hw : w ≤ 6) (hk : k < 4096) (hb : b = 0 ∨ b = 1)
    (K0 : w = 6 → post (-1) u) (K1 : w < 6 → ∀ u', dt_XS u' h v (nI (w + 1)) hd (upd bK w (nI k)) (upd bV w x) (upd bP w b) → post (nI (w + 1)) u') : wpX_stage post u b (nI k) x := by
  obtain ⟨ps, sz, nc, pK, pV, nK, nV, nP, hs, hz, hn, R, rfl⟩ := X
  have e : (nI w).toNatClampNeg = w := nI_clamp (by omega)
  unfold wpX_stage
  refine dt_oor_f hk (br_t rfl ?_)
  by_cases c : w < 6
  · have w6 : vp_in (nI w) 6 := vp_in_nI c (by omega)
    exact br_t (nI_lt (b := 6) c (by decide)) ⟨w6, nm_r (e' := upd bP w b) (by rw [e, dt_nb hb]) ⟨w6, nm_r (e' := upd bK w (nI k)) (by rw [e]) ⟨w6, nm_r (e' := upd bV w x) (by rw [e]) (nm_r (nI_1 w) (K1 c _ ⟨ps, sz, nc, pK, pV, nK, nV, nP, hs, hz, hn, R, rfl⟩))⟩⟩⟩
  · exact br_f (nI_nlt (b := 6) (by omega) (by omega)) (K0 (by omega))
theorem dt_Ystage {post : Int32 → SY → Prop} {w k : Nat} {b x : Int32} (hw : w ≤ 6) (hk : k < 4096) (hb : b = 0 ∨ b = 1)
    (K0 : w = 6 → post (-1) (E, nI w, h, v, bP, bK, bV, oH, oV)) (K1 : w < 6 → post (nI (w + 1)) (E, nI (w + 1), h, v, upd bP w b, upd bK w (nI k), upd bV w x, oH, oV)) :
    wpY_stage post (E, nI w, h, v, bP, bK, bV, oH, oV) b (nI k) x := by
  have e : (nI w).toNatClampNeg = w := nI_clamp (by omega)
  unfold wpY_stage
  refine dt_bad_f hk (br_t rfl ?_)
  by_cases c : w = 6
  · exact br_t (congrArg nI c) (K0 c)
  · have w6 : vp_in (nI w) 6 := vp_in_nI (by omega) (by omega)
    exact br_f (fun q => c ((nI_eq (b := 6) (by omega) (by decide)).mp q)) ⟨w6, nm_r (e' := upd bP w b) (by rw [e, dt_nb hb]) ⟨w6, nm_r (e' := upd bK w (nI k)) (by rw [e]) ⟨w6, nm_r (e' := upd bV w x) (by rw [e]) (nm_r (nI_1 w) (K1 (by omega)))⟩⟩⟩
theorem dt_B_s {w k : Nat} {b : Int32} (hB : dt_B w bK bP) (hk : k < 4096) (hb : b = 0 ∨ b = 1) : dt_B (w + 1) (upd bK w (nI k)) (upd bP w b) := by
  intro i hi
  by_cases c : i = w
  · subst c; rw [pk_us, pk_us]; exact ⟨⟨k, hk, rfl⟩, hb⟩
  · rw [pk_un c, pk_un c]; exact hB i (by omega)
theorem dt_Ytidy {post : SY → Prop} {u : SY} (K : post u) : wpY_tidy post u := by
  obtain ⟨a1, a2, a3, a4, a5, a6, a7, a8, a9⟩ := u
  unfold wpY_tidy
  exact K
end

/-! commit: the map after each change of the batch -/
theorem dt_sm_bd {f : Nat → Nat} (n : Nat) (h : ∀ i, f i ≤ 1) : dt_sm f n ≤ n := by
  induction n with
  | zero => exact Nat.le_refl _
  | succ n ih =>
    show dt_sm f n + f n ≤ n + 1
    have := h n
    omega
theorem dt_E_le (h : Nat → Int32) : dt_E h ≤ 4096 := dt_sm_bd 4096 fun i => by
  by_cases z : h i = 0
  · show (if h i = 0 then 0 else 1) ≤ 1
    rw [if_pos z]; omega
  · show (if h i = 0 then 0 else 1) ≤ 1
    rw [if_neg z]; omega
def dt_H (h bK bP : Nat → Int32) : Nat → Nat → Int32
  | 0 => h
  | i + 1 => upd (dt_H h bK bP i) (bK i).toNatClampNeg (bP i)
def dt_V (v bK bV bP : Nat → Int32) : Nat → Nat → Int32
  | 0 => v
  | i + 1 => upd (dt_V v bK bV bP i) (bK i).toNatClampNeg (if bP i = 0 then 0 else bV i)
def dt_B (w : Nat) (bK bP : Nat → Int32) : Prop := ∀ i, i < w → (∃ k, k < 4096 ∧ bK i = nI k) ∧ (bP i = 0 ∨ bP i = 1)
theorem dt_undo {f : Nat → Int32} {k : Nat} {a b : Int32} (h : f k = b) : upd (upd f k a) k b = f := by
  funext j
  by_cases e : j = k
  · subst e; rw [pk_us, h]
  · rw [pk_un e, pk_un e]
section
variable {pK pV nK nV nP bK bV bP h v : Nat → Int32} {ps sz nc w : Nat} {wt hd : Int32}
theorem dt_H_s {i k : Nat} (hk : k < 4096) (e : bK i = nI k) : dt_H h bK bP (i + 1) = upd (dt_H h bK bP i) k (bP i) := by
  show upd (dt_H h bK bP i) (bK i).toNatClampNeg (bP i) = _
  rw [e, nI_clamp (by omega)]
theorem dt_V_s {i k : Nat} (hk : k < 4096) (e : bK i = nI k) : dt_V v bK bV bP (i + 1) = upd (dt_V v bK bV bP i) k (if bP i = 0 then 0 else bV i) := by
  show upd (dt_V v bK bV bP i) (bK i).toNatClampNeg (if bP i = 0 then 0 else bV i) = _
  rw [e, nI_clamp (by omega)]
theorem dt_H_01 (hB : dt_B w bK bP) (h01 : ∀ k, k < 4096 → h k = 0 ∨ h k = 1) : ∀ i, i ≤ w → ∀ k, k < 4096 → dt_H h bK bP i k = 0 ∨ dt_H h bK bP i k = 1 := by
  intro i
  induction i with
  | zero => intro _ k hk; exact h01 k hk
  | succ i ih =>
    intro hi k hk
    obtain ⟨⟨j, hj, e⟩, b⟩ := hB i (by omega)
    rw [dt_H_s hj e]
    by_cases c : k = j
    · subst c; rw [pk_us]; exact b
    · rw [pk_un c]; exact ih (by omega) k hk
theorem dt_V_0 (hB : dt_B w bK bP) (h0 : ∀ k, k < 4096 → h k = 0 → v k = 0) : ∀ i, i ≤ w → ∀ k, k < 4096 → dt_H h bK bP i k = 0 → dt_V v bK bV bP i k = 0 := by
  intro i
  induction i with
  | zero => intro _ k hk; exact h0 k hk
  | succ i ih =>
    intro hi k hk
    obtain ⟨⟨j, hj, e⟩, b⟩ := hB i (by omega)
    rw [dt_H_s hj e, dt_V_s hj e]
    by_cases c : k = j
    · subst c
      rw [pk_us, pk_us]
      intro z
      exact if_pos z
    · rw [pk_un c, pk_un c]; exact ih (by omega) k hk
theorem dt_writeS {post : Int32 → SX → Prop} {k : Nat} {x : Int32} (hs : ps = 0 ∨ ps = 60) (hz : sz ≤ 60) (hn : nc < 16) (R : dt_Rep ps sz nc pK pV nK nV nP h v) (hk : k < 4096)
    (K : ∀ r, post r (nI ps, nI sz, nI (nc + 1), wt, nI (dt_E (upd h k 1)), pK, pV, upd nK nc (nI k), upd nV nc x, upd nP nc 1, bK, bV, bP)) :
    wpX_write post (nI ps, nI sz, nI nc, wt, nI (dt_E h), pK, pV, nK, nV, nP, bK, bV, bP) (nI k) x := by
  unfold wpX_write
  rcases R.2 k hk with ⟨z, hp⟩ | ⟨z, p, hp, _⟩
  · refine dt_placeOf hs hz (by omega) hp (br_t rfl ?_)
    rw [dt_E_add hk z] at K
    unfold wX_write_14
    exact dt_hangS (Or.inr rfl) hn (nm_r (nI_1 _) (K _))
  · have hp1 := (dt_pl_some hp).1
    refine dt_placeOf hs hz (by omega) hp (br_f (dt_m1 (by omega)) ?_)
    rw [show dt_E (upd h k 1) = dt_E h by rw [dt_E_same z]] at K
    unfold wX_write_14
    exact dt_hangS (Or.inr rfl) hn (nm_r (Int32.add_zero _) (K _))
theorem dt_eraseS {post : Int32 → SX → Prop} {k : Nat} (hs : ps = 0 ∨ ps = 60) (hz : sz ≤ 60) (hn : nc < 16) (R : dt_Rep ps sz nc pK pV nK nV nP h v) (hk : k < 4096)
    (K0 : h k = 0 → post 0 (nI ps, nI sz, nI nc, wt, nI (dt_E h), pK, pV, nK, nV, nP, bK, bV, bP))
    (K1 : h k = 1 → post 1 (nI ps, nI sz, nI (nc + 1), wt, nI (dt_E (upd h k 0)), pK, pV, upd nK nc (nI k), upd nV nc 0, upd nP nc 0, bK, bV, bP)) :
    wpX_erase post (nI ps, nI sz, nI nc, wt, nI (dt_E h), pK, pV, nK, nV, nP, bK, bV, bP) (nI k) := by
  unfold wpX_erase
  rcases R.2 k hk with ⟨z, hp⟩ | ⟨z, p, hp, _⟩
  · exact dt_placeOf hs hz (by omega) hp (br_t rfl (K0 z))
  · have hp1 := (dt_pl_some hp).1
    have e : nI (dt_E h) - 1 = nI (dt_E (upd h k 0)) := by rw [← dt_E_sub hk z, nI_pred]
    exact dt_placeOf hs hz (by omega) hp (br_f (dt_m1 (by omega)) (dt_hangS (Or.inl rfl) hn (nm_r e (K1 z))))
theorem dt_x38 {post : Int32 → SX → Prop} (hs : ps = 0 ∨ ps = 60) (hz : sz ≤ 60) (hn : nc ≤ 16) (R : dt_Rep ps sz nc pK pV nK nV nP h v) (hw : w ≤ 6) (hB : dt_B w bK bP)
    (h0 : ∀ k, k < 4096 → h k = 0 → v k = 0)
    (K0 : (∃ i, i ≤ w ∧ 60 < dt_E (dt_H h bK bP i)) → ∀ u', dt_XS u' h v 0 (nI (dt_E h)) bK bV bP → post (-1) u')
    (K1 : (∀ i, i ≤ w → dt_E (dt_H h bK bP i) ≤ 60) → ∀ u', dt_XS u' (dt_H h bK bP w) (dt_V v bK bV bP w) 0 (nI (dt_E (dt_H h bK bP w))) bK bV bP → post (nI (dt_E (dt_H h bK bP w))) u') :
    ∀ (d i mc : Nat) (mK mV mP : Nat → Int32), i + d = w → mc + d ≤ 16 → nc ≤ mc → (∀ j, j ≤ i → dt_E (dt_H h bK bP j) ≤ 60) →
    dt_Rep ps sz mc pK pV mK mV mP (dt_H h bK bP i) (dt_V v bK bV bP i) → (∀ m, m < nc → mK m = nK m) → (∀ m, m < nc → mV m = nV m) → (∀ m, m < nc → mP m = nP m) →
    wX_commit_38 post (nI w) (nI nc) (nI (dt_E h)) (d + 1) (nI i) (nI ps) (nI sz) (nI mc) 0 (nI (dt_E (dt_H h bK bP i))) pK pV mK mV mP bK bV bP := by
  intro d
  induction d with
  | zero =>
    intro i mc mK mV mP hi hmc hnm hE R' _ _ _
    obtain rfl : i = w := by omega
    exact br_t (nI_le (by omega) (by omega)) (K1 hE _ ⟨ps, sz, mc, pK, pV, mK, mV, mP, hs, hz, by omega, R', rfl⟩)
  | succ d ih =>
    intro i mc mK mV mP hi hmc hnm hE R' a1 a2 a3
    have e : (nI i).toNatClampNeg = i := nI_clamp (by omega)
    have w6 : vp_in (nI i) 6 := vp_in_nI (by omega) (by omega)
    obtain ⟨⟨k, hk, ek⟩, hb⟩ := hB i (by omega)
    have ek' : bK (nI i).toNatClampNeg = nI k := by rw [e]; exact ek
    have A : ∀ (lc : Nat) (lK lV lP : Nat → Int32), lc + d ≤ 16 → nc ≤ lc → dt_Rep ps sz lc pK pV lK lV lP (dt_H h bK bP (i + 1)) (dt_V v bK bV bP (i + 1)) →
        (∀ m, m < nc → lK m = nK m) → (∀ m, m < nc → lV m = nV m) → (∀ m, m < nc → lP m = nP m) →
        wX_commit_88 post (wX_commit_38 post (nI w) (nI nc) (nI (dt_E h)) (d + 1)) (nI w) (nI nc) (nI (dt_E h)) (nI i) (nI ps) (nI sz) (nI lc) 0 (nI (dt_E (dt_H h bK bP (i + 1)))) pK pV lK lV lP bK bV bP := by
      intro lc lK lV lP hlc hnl RL b1 b2 b3
      unfold wX_commit_88
      by_cases c : dt_E (dt_H h bK bP (i + 1)) ≤ 60
      · refine br_t (nI_le (b := 60) c (by decide)) (nm_r (nI_1 i) (ih (i + 1) lc lK lV lP (by omega) hlc hnl (fun j hj => ?_) RL b1 b2 b3))
        by_cases y : j = i + 1
        · subst y; exact c
        · exact hE j (by omega)
      · have := dt_E_le (dt_H h bK bP (i + 1))
        exact br_f (nI_ge (a := 60) (by omega) (by omega)) (K0 ⟨i + 1, by omega, by omega⟩ _ ⟨ps, sz, nc, pK, pV, lK, lV, lP, hs, hz, hn, dt_Rep_cg R (fun _ _ => rfl) (fun _ _ => rfl) b1 b2 b3, rfl⟩)
    rw [dt_H_s hk ek, dt_V_s hk ek] at A
    refine br_f (nI_ge (by omega) (by omega)) ⟨w6, ?_⟩
    rcases hb with b0 | b1
    · rw [b0, if_pos rfl] at A
      refine br_t (by rw [e]; exact b0) ⟨w6, ?_⟩
      rw [ek']
      refine dt_eraseS hs hz (by omega) R' hk (fun z => ?_) (fun z => ?_)
      · have ev := dt_V_0 (bV := bV) hB h0 i (by omega) k hk z
        rw [dt_E_same z, dt_E_same ev] at A
        exact A mc mK mV mP (by omega) hnm R' a1 a2 a3
      · exact A (mc + 1) _ _ _ (by omega) (by omega) (dt_Rep_note R' hk (Or.inl rfl)) (fun m hm => (pk_un (by omega)).trans (a1 m hm)) (fun m hm => (pk_un (by omega)).trans (a2 m hm)) (fun m hm => (pk_un (by omega)).trans (a3 m hm))
    · rw [b1, if_neg (by decide)] at A
      refine br_f (by rw [e, b1]; decide) ⟨w6, w6, ?_⟩
      rw [ek']
      refine dt_writeS hs hz (by omega) R' hk (fun r => ?_)
      rw [e]
      exact A (mc + 1) _ _ _ (by omega) (by omega) (dt_Rep_note R' hk (Or.inr ⟨rfl, rfl⟩)) (fun m hm => (pk_un (by omega)).trans (a1 m hm)) (fun m hm => (pk_un (by omega)).trans (a2 m hm)) (fun m hm => (pk_un (by omega)).trans (a3 m hm))
end
theorem dt_Xcommit {post : Int32 → SX → Prop} {u : SX} {h v bK bV bP : Nat → Int32} {w : Nat} (X : dt_XS u h v (nI w) (nI (dt_E h)) bK bV bP) (hE : dt_E h ≤ 60) (hw : w ≤ 6) (hB : dt_B w bK bP)
    (h0 : ∀ k, k < 4096 → h k = 0 → v k = 0)
    (K0 : (∃ i, i ≤ w ∧ 60 < dt_E (dt_H h bK bP i)) → ∀ u', dt_XS u' h v 0 (nI (dt_E h)) bK bV bP → post (-1) u')
    (K1 : (∀ i, i ≤ w → dt_E (dt_H h bK bP i) ≤ 60) → ∀ u', dt_XS u' (dt_H h bK bP w) (dt_V v bK bV bP w) 0 (nI (dt_E (dt_H h bK bP w))) bK bV bP → post (nI (dt_E (dt_H h bK bP w))) u') :
    wpX_commit post u := by
  obtain ⟨ps, sz, nc, pK, pV, nK, nV, nP, hs, hz, hn, R, rfl⟩ := X
  unfold wpX_commit
  have E0 : ∀ j, j ≤ 0 → dt_E (dt_H h bK bP j) ≤ 60 := fun j hj => by
    obtain rfl : j = 0 := by omega
    exact hE
  by_cases c : nc + w ≤ 16
  · refine br_t (by rw [nI_add]; exact nI_le (b := 16) c (by decide)) ?_
    unfold wX_commit_25
    exact ⟨w + 1, dt_x38 hs hz hn R hw hB h0 K0 K1 w 0 nc nK nV nP (by omega) c (Nat.le_refl _) E0 R (fun _ _ => rfl) (fun _ _ => rfl) (fun _ _ => rfl)⟩
  · refine br_f (by rw [nI_add]; exact nI_ge (a := 16) (by omega) (by omega)) (dt_anew R hs hz hn hE fun s qK qV hs6 R' => ?_)
    exact ⟨w + 1, dt_x38 (nc := 0) (by omega) hs6 (by omega) R' hw hB h0 K0 K1 w 0 0 nK nV nP (by omega) (by omega) (Nat.le_refl _) E0 R' (fun _ _ => rfl) (fun _ _ => rfl) (fun _ _ => rfl)⟩
section
variable {h v bK bV bP : Nat → Int32} {w : Nat}
theorem dt_y92 {post : Int32 → SY → Prop} (hw : w ≤ 6) (hB : dt_B w bK bP) (h01 : ∀ k, k < 4096 → h k = 0 ∨ h k = 1) (h0 : ∀ k, k < 4096 → h k = 0 → v k = 0) {oH oV : Nat → Int32}
    (a1 : ∀ j, j < w → oH j = dt_H h bK bP j (bK j).toNatClampNeg) (a2 : ∀ j, j < w → oV j = dt_V v bK bV bP j (bK j).toNatClampNeg)
    (K : post (-1) (nI (dt_E h), 0, h, v, bP, bK, bV, oH, oV)) :
    ∀ m, m ≤ w → wY_commit_92 post 1 (m + 1) (nI m - 1) (nI (dt_E (dt_H h bK bP m))) (nI w) (dt_H h bK bP m) (dt_V v bK bV bP m) bP bK bV oH oV := by
  intro m
  induction m with
  | zero =>
    intro _
    refine br_t (by decide) ?_
    unfold wY_commit_128
    exact br_f (by decide) K
  | succ m ih =>
    intro hm
    rw [nI_pred]
    have e : (nI m).toNatClampNeg = m := nI_clamp (by omega)
    have w6 : vp_in (nI m) 6 := vp_in_nI (by omega) (by omega)
    obtain ⟨⟨k, hk, ek⟩, hb⟩ := hB m (by omega)
    have ek' : bK (nI m).toNatClampNeg = nI k := by rw [e]; exact ek
    have b1 : oH m = dt_H h bK bP m k := by rw [a1 m (by omega), ek, nI_clamp (by omega)]
    have b2 : oV m = dt_V v bK bV bP m k := by rw [a2 m (by omega), ek, nI_clamp (by omega)]
    have hH := dt_H_01 hB h01 m (by omega) k hk
    have hH' := dt_H_01 hB h01 (m + 1) hm k hk
    have hV := dt_V_0 (bV := bV) hB h0 m (by omega) k hk
    refine br_f (nI_pos (by omega)) (br_f (by decide) ⟨w6, w6, w6, ?_⟩)
    rw [ek', e, b1, b2]
    refine dt_Ywrite hk hH' hH (y := dt_V v bK bV bP m k) ?_ ?_
    · by_cases z : dt_H h bK bP m k = 0
      · rw [if_pos z, hV z]
      · rw [if_neg z]
    · rw [dt_H_s hk ek, dt_V_s hk ek, dt_undo rfl, dt_undo rfl]
      exact nm_r (Int32.sub_eq_add_neg _ _).symm (ih (by omega))
theorem dt_y92z {post : Int32 → SY → Prop} {x f_waiting : Int32} {E : Int32} {h v a b c d e : Nat → Int32} (K : post E (E, 0, h, v, a, b, c, d, e)) : wY_commit_92 post 0 1 x E f_waiting h v a b c d e := by
  have W : wY_commit_128 post 0 E f_waiting h v a b c d e := by
    unfold wY_commit_128
    exact br_t rfl K
  by_cases z : x < 0
  · exact br_t z W
  · exact br_f z (br_t rfl W)
theorem dt_y4c {post : Int32 → SY → Prop} (hw : w ≤ 6) (hB : dt_B w bK bP) (h01 : ∀ k, k < 4096 → h k = 0 ∨ h k = 1) (h0 : ∀ k, k < 4096 → h k = 0 → v k = 0)
    (K0 : (∃ i, i ≤ w ∧ 60 < dt_E (dt_H h bK bP i)) → ∀ oH oV, post (-1) (nI (dt_E h), 0, h, v, bP, bK, bV, oH, oV))
    (K1 : (∀ i, i ≤ w → dt_E (dt_H h bK bP i) ≤ 60) → ∀ oH oV, post (nI (dt_E (dt_H h bK bP w))) (nI (dt_E (dt_H h bK bP w)), 0, dt_H h bK bP w, dt_V v bK bV bP w, bP, bK, bV, oH, oV)) :
    ∀ (d i : Nat) (t : Int32) (oH oV : Nat → Int32), i + d = w → ((t = 0 ∧ ∀ j, j ≤ i → dt_E (dt_H h bK bP j) ≤ 60) ∨ (t = 1 ∧ ∃ j, j ≤ i ∧ 60 < dt_E (dt_H h bK bP j))) →
    (∀ j, j < i → oH j = dt_H h bK bP j (bK j).toNatClampNeg) → (∀ j, j < i → oV j = dt_V v bK bV bP j (bK j).toNatClampNeg) →
    wY_commit_4 post (d + 1) t (nI i) (nI (dt_E (dt_H h bK bP i))) (nI w) (dt_H h bK bP i) (dt_V v bK bV bP i) bP bK bV oH oV := by
  intro d
  induction d with
  | zero =>
    intro i t oH oV hi ht a1 a2
    obtain rfl : i = w := by omega
    refine br_t (nI_le (by omega) (by omega)) (nm_e ?_)
    rcases ht with ⟨rfl, hE⟩ | ⟨rfl, hE⟩
    · exact ⟨1, dt_y92z (K1 hE oH oV)⟩
    · exact ⟨i + 1, dt_y92 hw hB h01 h0 a1 a2 (K0 hE oH oV) i (Nat.le_refl _)⟩
  | succ d ih =>
    intro i t oH oV hi ht a1 a2
    have e : (nI i).toNatClampNeg = i := nI_clamp (by omega)
    have w6 : vp_in (nI i) 6 := vp_in_nI (by omega) (by omega)
    obtain ⟨⟨k, hk, ek⟩, hb⟩ := hB i (by omega)
    have wk : vp_in (nI k) 4096 := vp_in_nI hk (by omega)
    have ec : (nI k).toNatClampNeg = k := nI_clamp (by omega)
    have ek' : bK (nI i).toNatClampNeg = nI k := by rw [e]; exact ek
    have hH := dt_H_01 hB h01 i (by omega) k hk
    refine br_f (nI_ge (by omega) (by omega)) ⟨w6, by rw [ek']; exact wk, w6, nm_r (e' := upd oH i (dt_H h bK bP i k)) (by rw [ek', ec, e, dt_nb hH]) ⟨w6, by rw [ek']; exact wk, w6, nm_r (e' := upd oV i (dt_V v bK bV bP i k)) (by rw [ek', ec, e]) ⟨w6, w6, w6, ?_⟩⟩⟩
    rw [ek', e]
    refine dt_Ywrite hk hH hb rfl ?_
    have A := fun t' ht' => ih (i + 1) t' (upd oH i (dt_H h bK bP i k)) (upd oV i (dt_V v bK bV bP i k)) (by omega) ht' (fun j hj => by
        by_cases y : j = i
        · subst y; rw [pk_us, ek, ec]
        · rw [pk_un y]; exact a1 j (by omega)) (fun j hj => by
        by_cases y : j = i
        · subst y; rw [pk_us, ek, ec]
        · rw [pk_un y]; exact a2 j (by omega))
    have hle := dt_E_le (dt_H h bK bP (i + 1))
    rw [← dt_H_s hk ek, ← dt_V_s hk ek]
    by_cases c : dt_E (dt_H h bK bP (i + 1)) ≤ 60
    · refine br_t (nI_le (b := 60) c (by decide)) (nm_r (nI_1 i) (A t ?_))
      rcases ht with ⟨z, hE⟩ | ⟨z, j, hj, hE⟩
      · refine Or.inl ⟨z, fun j hj => ?_⟩
        by_cases y : j = i + 1
        · subst y; exact c
        · exact hE j (by omega)
      · exact Or.inr ⟨z, j, by omega, hE⟩
    · exact br_f (nI_ge (a := 60) (by omega) (by omega)) (nm_r (nI_1 i) (A 1 (Or.inr ⟨rfl, i + 1, Nat.le_refl _, by omega⟩)))
theorem dt_Ycommit {post : Int32 → SY → Prop} {oH oV : Nat → Int32} (hE : dt_E h ≤ 60) (hw : w ≤ 6) (hB : dt_B w bK bP) (h01 : ∀ k, k < 4096 → h k = 0 ∨ h k = 1) (h0 : ∀ k, k < 4096 → h k = 0 → v k = 0)
    (K0 : (∃ i, i ≤ w ∧ 60 < dt_E (dt_H h bK bP i)) → ∀ oH oV, post (-1) (nI (dt_E h), 0, h, v, bP, bK, bV, oH, oV))
    (K1 : (∀ i, i ≤ w → dt_E (dt_H h bK bP i) ≤ 60) → ∀ oH oV, post (nI (dt_E (dt_H h bK bP w))) (nI (dt_E (dt_H h bK bP w)), 0, dt_H h bK bP w, dt_V v bK bV bP w, bP, bK, bV, oH, oV)) :
    wpY_commit post (nI (dt_E h), nI w, h, v, bP, bK, bV, oH, oV) := by
  unfold wpY_commit
  exact ⟨w + 1, dt_y4c hw hB h01 h0 K0 K1 w 0 0 oH oV (by omega) (Or.inl ⟨rfl, fun j hj => by
    obtain rfl : j = 0 := by omega
    exact hE⟩) (fun j hj => by omega) (fun j hj => by omega)⟩
end

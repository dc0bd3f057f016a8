/-! X's own methods -/
theorem dt_nb {b : Int32} (hb : b = 0 ∨ b = 1) : vp_nar .boolean b = b := by
  rcases hb with rfl | rfl
  · rfl
  · rfl
theorem dt_m1 {p : Nat} (hp : p < 2 ^ 31) : ¬ (nI p = -1) := fun e => nI_pos hp (by rw [e]; decide)
theorem dt_encp {o : Option Nat} {p : Nat} (hp : p < 2 ^ 31) (ho : ∀ q, o = some q → q < 2 ^ 31) : dt_enc o = nI p ↔ o = some p := by
  cases o with
  | none => exact ⟨fun e => absurd e.symm (dt_m1 hp), fun e => by cases e⟩
  | some q => exact ⟨fun e => congrArg some ((nI_eq (ho q rfl) hp).mp e), fun e => by cases e; rfl⟩
section
variable {pK pV nK nV nP bK bV bP h v : Nat → Int32} {ps sz nc : Nat} {wt hd NC : Int32}
theorem dt_w49 {post : Int32 → Prop} {key : Int32} (hs : ps + 60 ≤ 120) (hz : sz ≤ 60) : ∀ (d c : Nat), c + d = sz → post (dt_enc (dt_fc (fun c => pK (ps + c)) key d c)) →
    wX_placeOf_49 post key (nI ps) (nI sz) NC wt hd pK pV nK nV nP bK bV bP (d + 1) (nI c) := by
  intro d
  induction d with
  | zero =>
    intro c hc hp
    exact br_t (nI_le (by omega) (by omega)) hp
  | succ d ih =>
    intro c hc hp
    have e : nI ps + nI c = nI (ps + c) := nI_add _ _
    have w : vp_in (nI ps + nI c) 120 := by rw [e]; exact vp_in_nI (by omega) (by omega)
    have e2 : (nI ps + nI c).toNatClampNeg = ps + c := by rw [e]; exact nI_clamp (by omega)
    have hp' : post (dt_enc (if pK (ps + c) = key then some c else dt_fc (fun c => pK (ps + c)) key d (c + 1))) := hp
    by_cases z : pK (ps + c) = key
    · rw [if_pos z] at hp'
      exact br_f (nI_ge (by omega) (by omega)) ⟨w, br_t (by rw [e2]; exact z) hp'⟩
    · rw [if_neg z] at hp'
      exact br_f (nI_ge (by omega) (by omega)) ⟨w, br_f (by rw [e2]; exact z) (nm_r (nI_1 c) (ih (c + 1) (by omega) hp'))⟩
theorem dt_w7 {post : Int32 → Prop} {key : Int32} (hs : ps + 60 ≤ 120) (hz : sz ≤ 60) : ∀ (m : Nat), m ≤ 16 → post (dt_enc (dt_pl pK ps sz nK nP m key)) →
    wX_placeOf_7 post key (nI ps) (nI sz) NC wt hd pK pV nK nV nP bK bV bP (m + 1) (nI m - 1) := by
  intro m
  induction m with
  | zero =>
    intro _ hp
    exact br_t (by decide) ⟨sz + 1, dt_w49 hs hz sz 0 (by omega) hp⟩
  | succ m ih =>
    intro hm hp
    rw [nI_pred]
    have w : vp_in (nI m) 16 := vp_in_nI (by omega) (by omega)
    have e : (nI m).toNatClampNeg = m := nI_clamp (by omega)
    by_cases z : nK m = key
    · have f : dt_fn nK key (m + 1) = some m := by
        show (if nK m = key then some m else dt_fn nK key m) = some m
        exact if_pos z
      rw [dt_pl_n f] at hp
      by_cases y : nP m = 0
      · rw [if_pos y] at hp
        exact br_f (nI_pos (by omega)) ⟨w, br_t (by rw [e]; exact z) ⟨w, br_t (by rw [e]; exact y) hp⟩⟩
      · rw [if_neg y] at hp
        exact br_f (nI_pos (by omega)) ⟨w, br_t (by rw [e]; exact z) ⟨w, br_f (by rw [e]; exact y) (by rw [nI_add]; exact hp)⟩⟩
    · have f : dt_pl pK ps sz nK nP (m + 1) key = dt_pl pK ps sz nK nP m key := by
        unfold dt_pl
        rw [show dt_fn nK key (m + 1) = dt_fn nK key m from if_neg z]
      rw [f] at hp
      exact br_f (nI_pos (by omega)) ⟨w, br_f (by rw [e]; exact z) (nm_r (Int32.sub_eq_add_neg _ _).symm (ih (by omega) hp))⟩
theorem dt_placeOf {post : Int32 → Prop} {key : Int32} {o : Option Nat} (hs : ps = 0 ∨ ps = 60) (hz : sz ≤ 60) (hn : nc ≤ 16) (e : dt_pl pK ps sz nK nP nc key = o) (hp : post (dt_enc o)) :
    wpX_placeOf post (nI ps, nI sz, nI nc, wt, hd, pK, pV, nK, nV, nP, bK, bV, bP) key := by
  subst e
  unfold wpX_placeOf
  exact nm_e ⟨nc + 1, dt_w7 (by omega) hz nc hn hp⟩
theorem dt_keyAt {post : Int32 → Prop} {p : Nat} {x : Int32} (hs : ps = 0 ∨ ps = 60) (hz : sz ≤ 60) (hn : nc ≤ 16) (h : p < sz + nc) (e : dt_at pK ps sz nK p = x) (hp : post x) :
    wpX_keyAt post (nI ps, nI sz, NC, wt, hd, pK, pV, nK, nV, nP, bK, bV, bP) (nI p) := by
  subst e
  unfold wpX_keyAt
  unfold dt_at at hp
  by_cases z : p < sz
  · rw [if_pos z] at hp
    refine br_f (nI_ge z (by omega)) ⟨?_, ?_⟩
    · rw [nI_add]; exact vp_in_nI (by omega) (by omega)
    · rw [nI_add, nI_clamp (by omega)]; exact hp
  · rw [if_neg z] at hp
    refine br_t (nI_le (by omega) (by omega)) ⟨?_, ?_⟩
    · rw [pk_sub (by omega)]; exact vp_in_nI (by omega) (by omega)
    · rw [pk_sub (by omega), nI_clamp (by omega)]; exact hp
theorem dt_valueAt {post : Int32 → Prop} {p : Nat} {x : Int32} (hs : ps = 0 ∨ ps = 60) (hz : sz ≤ 60) (hn : nc ≤ 16) (h : p < sz + nc) (e : dt_at pV ps sz nV p = x) (hp : post x) :
    wpX_valueAt post (nI ps, nI sz, NC, wt, hd, pK, pV, nK, nV, nP, bK, bV, bP) (nI p) := by
  subst e
  unfold wpX_valueAt
  unfold dt_at at hp
  by_cases z : p < sz
  · rw [if_pos z] at hp
    refine br_f (nI_ge z (by omega)) ⟨?_, ?_⟩
    · rw [nI_add]; exact vp_in_nI (by omega) (by omega)
    · rw [nI_add, nI_clamp (by omega)]; exact hp
  · rw [if_neg z] at hp
    refine br_t (nI_le (by omega) (by omega)) ⟨?_, ?_⟩
    · rw [pk_sub (by omega)]; exact vp_in_nI (by omega) (by omega)
    · rw [pk_sub (by omega), nI_clamp (by omega)]; exact hp
theorem dt_w23 {post : SX → Prop} (R : dt_Rep ps sz nc pK pV nK nV nP h v) (hs : ps = 0 ∨ ps = 60) (hz : sz ≤ 60) (hn : nc ≤ 16) (hE : dt_E h ≤ 60)
    (K : ∀ (s : Nat) (qK qV : Nat → Int32), s ≤ 60 → dt_Rep (60 - ps) s 0 qK qV nK nV nP h v → post (nI (60 - ps), nI s, 0, wt, hd, qK, qV, nK, nV, nP, bK, bV, bP)) :
    ∀ (d p s : Nat) (qK qV : Nat → Int32), p + d = sz + nc → s ≤ 60 → dt_New ps sz nc pK pV nK nV nP h v (60 - ps) p s qK qV →
    wX_makePageAnew_23 post (nI (60 - ps)) (nI (sz + nc)) (nI ps) (nI sz) (nI nc) wt hd (d + 1) (nI s) (nI p) qK qV nK nV nP bK bV bP := by
  intro d
  induction d with
  | zero =>
    intro p s qK qV hp hs6 I
    exact br_t (nI_le (by omega) (by omega)) (K s qK qV hs6 (dt_New_end R hE I (Or.inl (by omega))))
  | succ d ih =>
    intro p s qK qV hp hs6 I
    by_cases z : 60 ≤ s
    · exact br_f (nI_ge (by omega) (by omega)) (br_t (nI_le (a := 60) z (by omega)) (K s qK qV hs6 (dt_New_end R hE I (Or.inr z))))
    · have i1 := I.1
      have i2 := I.2.1
      have e : nI (60 - ps) + nI s = nI (60 - ps + s) := nI_add _ _
      have w : vp_in (nI (60 - ps) + nI s) 120 := by rw [e]; exact vp_in_nI (by omega) (by omega)
      have e2 : (nI (60 - ps) + nI s).toNatClampNeg = 60 - ps + s := by rw [e]; exact nI_clamp (by omega)
      have ek : dt_at qK ps sz nK p = dt_at pK ps sz nK p := dt_at_cg i1 (fun _ _ => rfl) (nc := nc) (by omega)
      have ev : dt_at qV ps sz nV p = dt_at pV ps sz nV p := dt_at_cg i2 (fun _ _ => rfl) (nc := nc) (by omega)
      have el : dt_pl qK ps sz nK nP nc (dt_at pK ps sz nK p) = dt_pl pK ps sz nK nP nc (dt_at pK ps sz nK p) := dt_pl_cg i1 (fun _ _ => rfl) (fun _ _ => rfl) _
      refine br_f (nI_ge (by omega) (by omega)) (br_f (nI_ge (b := 60) (by omega) (by decide)) (dt_keyAt hs hz hn (by omega) ek (dt_placeOf hs hz hn el ?_)))
      have hb : ∀ q, dt_pl pK ps sz nK nP nc (dt_at pK ps sz nK p) = some q → q < 2 ^ 31 := fun q hq => by
        have := (dt_pl_some hq).1
        omega
      by_cases y : dt_pl pK ps sz nK nP nc (dt_at pK ps sz nK p) = some p
      · refine br_t ((dt_encp (by omega) hb).mpr y) ⟨w, nm_r (e' := upd qK (60 - ps + s) (dt_at pK ps sz nK p)) (by rw [e2]) (dt_valueAt hs hz hn (by omega) ev ⟨w, nm_r (e' := upd qV (60 - ps + s) (dt_at pV ps sz nV p)) (by rw [e2]) (nm_r (nI_1 s) (nm_r (nI_1 p) ?_))⟩)⟩
        exact ih (p + 1) (s + 1) _ _ (by omega) (by omega) (dt_New_take R I (by omega) (fun c hc => by omega) y)
      · refine br_f (fun z => y ((dt_encp (by omega) hb).mp z)) (nm_r (nI_1 p) ?_)
        exact ih (p + 1) s _ _ (by omega) hs6 (dt_New_skip I y)
theorem dt_anew {post : SX → Prop} (R : dt_Rep ps sz nc pK pV nK nV nP h v) (hs : ps = 0 ∨ ps = 60) (hz : sz ≤ 60) (hn : nc ≤ 16) (hE : dt_E h ≤ 60)
    (K : ∀ (s : Nat) (qK qV : Nat → Int32), s ≤ 60 → dt_Rep (60 - ps) s 0 qK qV nK nV nP h v → post (nI (60 - ps), nI s, 0, wt, hd, qK, qV, nK, nV, nP, bK, bV, bP)) :
    wpX_makePageAnew post (nI ps, nI sz, nI nc, wt, hd, pK, pV, nK, nV, nP, bK, bV, bP) := by
  unfold wpX_makePageAnew
  exact nm_r (pk_sub (a := 60) (b := ps) (by omega)) (nm_r (nI_add sz nc) ⟨sz + nc + 1, dt_w23 R hs hz hn hE K (sz + nc) 0 0 pK pV (by omega) (by omega) (dt_New_0 _)⟩)
theorem dt_hang13 {post : SX → Prop} {k : Nat} {b x : Int32} (hb : b = 0 ∨ b = 1) (hn : nc < 16)
    (K : post (nI ps, nI sz, nI (nc + 1), wt, hd, pK, pV, upd nK nc (nI k), upd nV nc x, upd nP nc b, bK, bV, bP)) :
    wX_hangNote_13 post b (nI k) x (nI ps) (nI sz) (nI nc) wt hd pK pV nK nV nP bK bV bP := by
  have e : (nI nc).toNatClampNeg = nc := nI_clamp (by omega)
  have w : vp_in (nI nc) 16 := vp_in_nI hn (by omega)
  unfold wX_hangNote_13
  exact ⟨w, nm_r (e' := upd nP nc b) (by rw [e, dt_nb hb]) ⟨w, nm_r (e' := upd nK nc (nI k)) (by rw [e]) ⟨w, nm_r (e' := upd nV nc x) (by rw [e]) (nm_r (nI_1 nc) K)⟩⟩⟩
theorem dt_hangS {post : SX → Prop} {k : Nat} {b x : Int32} (hb : b = 0 ∨ b = 1) (hn : nc < 16)
    (K : post (nI ps, nI sz, nI (nc + 1), wt, hd, pK, pV, upd nK nc (nI k), upd nV nc x, upd nP nc b, bK, bV, bP)) :
    wpX_hangNote post (nI ps, nI sz, nI nc, wt, hd, pK, pV, nK, nV, nP, bK, bV, bP) b (nI k) x := by
  unfold wpX_hangNote
  exact br_t (nI_lt (b := 16) hn (by decide)) (dt_hang13 hb hn K)
end

/-! Y's changes -/
section
variable {h v P Kk N hB vB : Nat → Int32} {wt : Int32}
theorem dt_Ywrite {post : SY → Prop} {k : Nat} {b x y : Int32} (hk : k < 4096) (h01 : h k = 0 ∨ h k = 1) (hb : b = 0 ∨ b = 1) (hy : y = if b = 0 then 0 else x)
    (K : post (nI (dt_E (upd h k b)), wt, upd h k b, upd v k y, P, Kk, N, hB, vB)) : wpY_write post (nI (dt_E h), wt, h, v, P, Kk, N, hB, vB) (nI k) b x := by
  have e : (nI k).toNatClampNeg = k := nI_clamp (by omega)
  have w : vp_in (nI k) 4096 := vp_in_nI hk (by omega)
  subst hy
  have W : ∀ E : Int32, E = nI (dt_E (upd h k b)) → wY_write_28 post (nI k) b x E wt h v P Kk N hB vB := by
    intro E eE
    subst eE
    unfold wY_write_28
    refine ⟨w, nm_r (e' := upd h k b) (by rw [e, dt_nb hb]) ?_⟩
    by_cases z : b = 0
    · rw [if_pos z] at K
      exact br_t z ⟨w, nm_r (e' := upd v k 0) (by rw [e]) K⟩
    · rw [if_neg z] at K
      exact br_f z ⟨w, nm_r (e' := upd v k x) (by rw [e]) K⟩
  unfold wpY_write
  refine ⟨w, ?_⟩
  by_cases z : h k = b
  · exact br_t (by rw [e]; exact z) (W _ (by rw [dt_E_same z]))
  · refine br_f (by rw [e]; exact z) ?_
    rcases hb with rfl | rfl
    · have h1 : h k = 1 := h01.resolve_left z
      refine br_t rfl ?_
      unfold wY_write_24
      exact nm_r (e' := nI (dt_E (upd h k 0))) (by rw [← dt_E_sub hk h1, pk_m1]) (W _ rfl)
    · have h1 : h k = 0 := h01.resolve_right z
      refine br_f (by decide) ?_
      unfold wY_write_24
      exact nm_r (e' := nI (dt_E (upd h k 1))) (by rw [dt_E_add hk h1, nI_1]) (W _ rfl)
theorem dt_Yput {post : Int32 → SY → Prop} {k : Nat} {x : Int32} (hE : dt_E h ≤ 60) (hk : k < 4096) (h01 : h k = 0 ∨ h k = 1)
    (K0 : h k = 0 → dt_E h = 60 → post (-1) (nI (dt_E h), wt, h, v, P, Kk, N, hB, vB))
    (K1 : h k = 1 ∨ dt_E h < 60 → post (if h k = 0 then 1 else 0) (nI (dt_E (upd h k 1)), wt, upd h k 1, upd v k x, P, Kk, N, hB, vB)) :
    wpY_put post (nI (dt_E h), wt, h, v, P, Kk, N, hB, vB) (nI k) x := by
  have e : (nI k).toNatClampNeg = k := nI_clamp (by omega)
  have w : vp_in (nI k) 4096 := vp_in_nI hk (by omega)
  have W : h k = 1 ∨ dt_E h < 60 → wY_put_27 post (nI k) x (nI (dt_E h)) wt h v P Kk N hB vB := by
    intro c
    have K := K1 c
    unfold wY_put_27
    refine ⟨w, nm_r (e' := h k) (by rw [e]) (dt_Ywrite hk h01 (Or.inr rfl) (y := x) (if_neg (by decide)).symm ?_)⟩
    by_cases z : h k = 0
    · rw [if_pos z] at K; exact br_t z K
    · rw [if_neg z] at K; exact br_f z K
  unfold wpY_put
  refine dt_bad_f hk (br_t rfl ⟨w, ?_⟩)
  by_cases z : h k = 0
  · refine br_t (by rw [e]; exact z) ?_
    by_cases c : dt_E h = 60
    · exact br_t (congrArg nI c) (K0 z c)
    · exact br_f (fun q => c ((nI_eq (b := 60) (by omega) (by decide)).mp q)) (W (Or.inr (by omega)))
  · exact br_f (by rw [e]; exact z) (W (Or.inl (h01.resolve_left z)))
theorem dt_Yremove {post : Int32 → SY → Prop} {k : Nat} (hk : k < 4096) (h01 : h k = 0 ∨ h k = 1)
    (K0 : h k = 0 → post 0 (nI (dt_E h), wt, h, v, P, Kk, N, hB, vB))
    (K1 : h k = 1 → post 1 (nI (dt_E (upd h k 0)), wt, upd h k 0, upd v k 0, P, Kk, N, hB, vB)) :
    wpY_remove post (nI (dt_E h), wt, h, v, P, Kk, N, hB, vB) (nI k) := by
  have e : (nI k).toNatClampNeg = k := nI_clamp (by omega)
  have w : vp_in (nI k) 4096 := vp_in_nI hk (by omega)
  unfold wpY_remove
  refine dt_bad_f hk (br_t rfl ⟨w, ?_⟩)
  by_cases z : h k = 0
  · exact br_t (by rw [e]; exact z) (K0 z)
  · exact br_f (by rw [e]; exact z) (dt_Ywrite hk h01 (Or.inl rfl) (y := 0) (if_pos rfl).symm (K1 (h01.resolve_left z)))
end
/-! next, previous, count: each side against one answer -/
def dt_Nx (h : Nat → Int32) (f r : Int32) : Prop :=
  (r = -1 ∧ ∀ k, k < 4096 → h k = 1 → nI k < f) ∨ ∃ j, j < 4096 ∧ r = nI j ∧ h j = 1 ∧ ¬ nI j < f ∧ ∀ k, k < 4096 → h k = 1 → ¬ nI k < f → j ≤ k
def dt_Pv (h : Nat → Int32) (f r : Int32) : Prop :=
  (r = -1 ∧ ∀ k, k < 4096 → h k = 1 → f < nI k) ∨ ∃ j, j < 4096 ∧ r = nI j ∧ h j = 1 ∧ ¬ f < nI j ∧ ∀ k, k < 4096 → h k = 1 → ¬ f < nI k → k ≤ j
theorem dt_Nx_u {h : Nat → Int32} {f r r' : Int32} (a : dt_Nx h f r) (b : dt_Nx h f r') : r' = r := by
  rcases a with ⟨e, a⟩ | ⟨j, hj, e, h1, h2, a⟩
  · rcases b with ⟨e', b⟩ | ⟨i, hi, e', g1, g2, b⟩
    · rw [e, e']
    · exact absurd (a i hi g1) g2
  · rcases b with ⟨e', b⟩ | ⟨i, hi, e', g1, g2, b⟩
    · exact absurd (b j hj h1) h2
    · have := a i hi g1 g2
      have := b j hj h1 h2
      rw [e, e', show i = j by omega]
theorem dt_Pv_u {h : Nat → Int32} {f r r' : Int32} (a : dt_Pv h f r) (b : dt_Pv h f r') : r' = r := by
  rcases a with ⟨e, a⟩ | ⟨j, hj, e, h1, h2, a⟩
  · rcases b with ⟨e', b⟩ | ⟨i, hi, e', g1, g2, b⟩
    · rw [e, e']
    · exact absurd (a i hi g1) g2
  · rcases b with ⟨e', b⟩ | ⟨i, hi, e', g1, g2, b⟩
    · exact absurd (b j hj h1) h2
    · have := a i hi g1 g2
      have := b j hj h1 h2
      rw [e, e', show i = j by omega]
def dt_Ls (g h : Nat → Int32) (f : Int32) (p : Nat) (l : Int32) : Prop :=
  (l = -1 ∧ ∀ q, q < p → ∀ k, k < 4096 → g q = nI k → h k = 1 → nI k < f) ∨ ∃ j, j < 4096 ∧ l = nI j ∧ h j = 1 ∧ ¬ nI j < f ∧ ∀ q, q < p → ∀ k, k < 4096 → g q = nI k → h k = 1 → ¬ nI k < f → j ≤ k
def dt_Gs (g h : Nat → Int32) (f : Int32) (p : Nat) (l : Int32) : Prop :=
  (l = -1 ∧ ∀ q, q < p → ∀ k, k < 4096 → g q = nI k → h k = 1 → f < nI k) ∨ ∃ j, j < 4096 ∧ l = nI j ∧ h j = 1 ∧ ¬ f < nI j ∧ ∀ q, q < p → ∀ k, k < 4096 → g q = nI k → h k = 1 → ¬ f < nI k → k ≤ j
section
variable {g h : Nat → Int32} {f l : Int32} {p k : Nat}
theorem dt_Ls_skip (I : dt_Ls g h f p l) (ek : g p = nI k) (hk : k < 4096) (s : h k = 1 → nI k < f ∨ ∃ j, j < 4096 ∧ l = nI j ∧ j ≤ k) : dt_Ls g h f (p + 1) l := by
  have same : ∀ i, i < 4096 → g p = nI i → i = k := fun i hi e => (nI_eq (by omega) (by omega)).mp (e.symm.trans ek)
  rcases I with ⟨rfl, a⟩ | ⟨j, hj, rfl, h1, h2, a⟩
  · refine Or.inl ⟨rfl, fun q hq i hi e hh => ?_⟩
    by_cases c : q = p
    · subst c
      obtain rfl := same i hi e
      rcases s hh with z | ⟨j, hj, e2, _⟩
      · exact z
      · exact absurd e2.symm (dt_m1 (by omega))
    · exact a q (by omega) i hi e hh
  · refine Or.inr ⟨j, hj, rfl, h1, h2, fun q hq i hi e hh nf => ?_⟩
    by_cases c : q = p
    · subst c
      obtain rfl := same i hi e
      rcases s hh with z | ⟨j', hj', e2, le⟩
      · exact absurd z nf
      · have := (nI_eq (by omega) (by omega)).mp e2
        omega
    · exact a q (by omega) i hi e hh nf
theorem dt_Ls_take (I : dt_Ls g h f p l) (ek : g p = nI k) (hk : k < 4096) (h1 : h k = 1) (nf : ¬ nI k < f) (s : ∀ j, j < 4096 → l = nI j → k ≤ j) : dt_Ls g h f (p + 1) (nI k) := by
  refine Or.inr ⟨k, hk, rfl, h1, nf, fun q hq i hi e hh ni => ?_⟩
  by_cases c : q = p
  · subst c
    have : i = k := (nI_eq (by omega) (by omega)).mp (e.symm.trans ek)
    omega
  · rcases I with ⟨_, a⟩ | ⟨j, hj, el, _, _, a⟩
    · exact absurd (a q (by omega) i hi e hh) ni
    · have := a q (by omega) i hi e hh ni
      have := s j hj el
      omega
theorem dt_Gs_skip (I : dt_Gs g h f p l) (ek : g p = nI k) (hk : k < 4096) (s : h k = 1 → f < nI k ∨ ∃ j, j < 4096 ∧ l = nI j ∧ k ≤ j) : dt_Gs g h f (p + 1) l := by
  have same : ∀ i, i < 4096 → g p = nI i → i = k := fun i hi e => (nI_eq (by omega) (by omega)).mp (e.symm.trans ek)
  rcases I with ⟨rfl, a⟩ | ⟨j, hj, rfl, h1, h2, a⟩
  · refine Or.inl ⟨rfl, fun q hq i hi e hh => ?_⟩
    by_cases c : q = p
    · subst c
      obtain rfl := same i hi e
      rcases s hh with z | ⟨j, hj, e2, _⟩
      · exact z
      · exact absurd e2.symm (dt_m1 (by omega))
    · exact a q (by omega) i hi e hh
  · refine Or.inr ⟨j, hj, rfl, h1, h2, fun q hq i hi e hh nf => ?_⟩
    by_cases c : q = p
    · subst c
      obtain rfl := same i hi e
      rcases s hh with z | ⟨j', hj', e2, le⟩
      · exact absurd z nf
      · have := (nI_eq (by omega) (by omega)).mp e2
        omega
    · exact a q (by omega) i hi e hh nf
theorem dt_Gs_take (I : dt_Gs g h f p l) (ek : g p = nI k) (hk : k < 4096) (h1 : h k = 1) (nf : ¬ f < nI k) (s : ∀ j, j < 4096 → l = nI j → j ≤ k) : dt_Gs g h f (p + 1) (nI k) := by
  refine Or.inr ⟨k, hk, rfl, h1, nf, fun q hq i hi e hh ni => ?_⟩
  by_cases c : q = p
  · subst c
    have : i = k := (nI_eq (by omega) (by omega)).mp (e.symm.trans ek)
    omega
  · rcases I with ⟨_, a⟩ | ⟨j, hj, el, _, _, a⟩
    · exact absurd (a q (by omega) i hi e hh) ni
    · have := a q (by omega) i hi e hh ni
      have := s j hj el
      omega
end
section
variable {h v P Kk N hB vB : Nat → Int32} {E wt : Int32}
theorem dt_y2 {post : Int32 → Prop} {f : Int32} (h01 : ∀ k, k < 4096 → h k = 0 ∨ h k = 1) (K : ∀ r, dt_Nx h f r → post r) : ∀ d c, c + d = 4096 → (∀ k, k < c → h k = 1 → nI k < f) →
    wY_next_2 post f E wt h v P Kk N hB vB (d + 1) (nI c) := by
  intro d
  induction d with
  | zero =>
    intro c hc a
    exact br_t (nI_le (a := 4096) (by omega) (by omega)) (K _ (Or.inl ⟨rfl, fun k hk => a k (by omega)⟩))
  | succ d ih =>
    intro c hc a
    have e : (nI c).toNatClampNeg = c := nI_clamp (by omega)
    refine br_f (nI_ge (b := 4096) (by omega) (by decide)) ?_
    by_cases z : nI c < f
    · refine br_t z (nm_r (nI_1 c) (ih (c + 1) (by omega) fun k hk hh => ?_))
      by_cases y : k = c
      · subst y; exact z
      · exact a k (by omega) hh
    · refine br_f z ⟨vp_in_nI (by omega) (by omega), ?_⟩
      by_cases y : h c = 0
      · refine br_t (by rw [e]; exact y) (nm_r (nI_1 c) (ih (c + 1) (by omega) fun k hk hh => ?_))
        by_cases x : k = c
        · subst x; rw [y] at hh; exact absurd hh (by decide)
        · exact a k (by omega) hh
      · refine br_f (by rw [e]; exact y) (K _ (Or.inr ⟨c, by omega, rfl, (h01 c (by omega)).resolve_left y, z, fun k hk hh nf => ?_⟩))
        by_cases x : k < c
        · exact absurd (a k x hh) nf
        · omega
theorem dt_Ynext {post : Int32 → Prop} {f : Int32} (h01 : ∀ k, k < 4096 → h k = 0 ∨ h k = 1) (K : ∀ r, dt_Nx h f r → post r) : wpY_next post (E, wt, h, v, P, Kk, N, hB, vB) f := by
  unfold wpY_next
  exact ⟨4096 + 1, dt_y2 h01 K 4096 0 (by omega) (fun k hk => by omega)⟩
theorem dt_y4 {post : Int32 → Prop} {f : Int32} (h01 : ∀ k, k < 4096 → h k = 0 ∨ h k = 1) (K : ∀ r, dt_Pv h f r → post r) : ∀ c, c ≤ 4096 → (∀ k, c ≤ k → k < 4096 → h k = 1 → f < nI k) →
    wY_previous_4 post f E wt h v P Kk N hB vB (c + 1) (nI c - 1) := by
  intro c
  induction c with
  | zero =>
    intro _ a
    exact br_t (by decide) (K _ (Or.inl ⟨rfl, fun k hk => a k (by omega) hk⟩))
  | succ c ih =>
    intro hc a
    rw [nI_pred]
    have e : (nI c).toNatClampNeg = c := nI_clamp (by omega)
    refine br_f (nI_pos (by omega)) ?_
    by_cases z : f < nI c
    · refine br_t z (nm_r (Int32.sub_eq_add_neg _ _).symm (ih (by omega) fun k hk hk2 hh => ?_))
      by_cases y : k = c
      · subst y; exact z
      · exact a k (by omega) hk2 hh
    · refine br_f z ⟨vp_in_nI (by omega) (by omega), ?_⟩
      by_cases y : h c = 0
      · refine br_t (by rw [e]; exact y) (nm_r (Int32.sub_eq_add_neg _ _).symm (ih (by omega) fun k hk hk2 hh => ?_))
        by_cases x : k = c
        · subst x; rw [y] at hh; exact absurd hh (by decide)
        · exact a k (by omega) hk2 hh
      · refine br_f (by rw [e]; exact y) (K _ (Or.inr ⟨c, by omega, rfl, (h01 c (by omega)).resolve_left y, z, fun k hk hh nf => ?_⟩))
        by_cases x : c < k
        · exact absurd (a k x hk hh) nf
        · omega
theorem dt_Yprev {post : Int32 → Prop} {f : Int32} (h01 : ∀ k, k < 4096 → h k = 0 ∨ h k = 1) (K : ∀ r, dt_Pv h f r → post r) : wpY_previous post (E, wt, h, v, P, Kk, N, hB, vB) f := by
  unfold wpY_previous
  have W := dt_y4 (E := E) (wt := wt) (v := v) (P := P) (Kk := Kk) (N := N) (hB := hB) (vB := vB) h01 K 4096 (by omega) (fun k hk => by omega)
  rw [show nI 4096 - 1 = 4095 by decide] at W
  exact ⟨4096 + 1, W⟩
def dt_q (low high : Int32) (x : Int32) : Bool := !decide (x < low) && !decide (high < x)
theorem dt_q_lo {low high x : Int32} (z : x < low) : ¬ dt_q low high x = true := by
  unfold dt_q; rw [decide_eq_true z]; intro c; cases c
theorem dt_q_hi {low high x : Int32} (z : high < x) : ¬ dt_q low high x = true := by
  unfold dt_q; rw [decide_eq_true z, Bool.not_true, Bool.and_false]; intro c; cases c
theorem dt_q_in {low high x : Int32} (z : ¬ x < low) (y : ¬ high < x) : dt_q low high x = true := by
  unfold dt_q; rw [decide_eq_false z, decide_eq_false y]; rfl
def dt_c (h : Nat → Int32) (low high : Int32) (k : Nat) : Nat := if h k = 0 then 0 else if dt_q low high (nI k) = true then 1 else 0
theorem dt_y5 {post : Int32 → Prop} {low high : Int32} (K : post (nI (dt_sm (dt_c h low high) 4096))) : ∀ d c, c + d = 4096 →
    wY_count_5 post low high E wt h v P Kk N hB vB (d + 1) (nI (dt_sm (dt_c h low high) c)) (nI c) := by
  intro d
  induction d with
  | zero =>
    intro c hc
    obtain rfl : c = 4096 := by omega
    exact br_t (nI_le (a := 4096) (by omega) (by omega)) K
  | succ d ih =>
    intro c hc
    have e : (nI c).toNatClampNeg = c := nI_clamp (by omega)
    have W := ih (c + 1) (by omega)
    rw [show dt_sm (dt_c h low high) (c + 1) = dt_sm (dt_c h low high) c + dt_c h low high c from rfl] at W
    refine br_f (nI_ge (b := 4096) (by omega) (by decide)) ⟨vp_in_nI (by omega) (by omega), ?_⟩
    by_cases y : h c = 0
    · rw [show dt_c h low high c = 0 from if_pos y] at W
      exact br_t (by rw [e]; exact y) (nm_r (nI_1 c) W)
    · refine br_f (by rw [e]; exact y) ?_
      by_cases a : nI c < low
      · rw [show dt_c h low high c = 0 from (if_neg y).trans (if_neg (dt_q_lo a))] at W
        exact br_t a (nm_r (nI_1 c) W)
      · refine br_f a ?_
        by_cases b : high < nI c
        · rw [show dt_c h low high c = 0 from (if_neg y).trans (if_neg (dt_q_hi b))] at W
          exact br_t b (nm_r (nI_1 c) W)
        · rw [show dt_c h low high c = 1 from (if_neg y).trans (if_pos (dt_q_in a b))] at W
          exact br_f b (nm_r (nI_1 _) (nm_r (nI_1 c) W))
theorem dt_Ycount {post : Int32 → Prop} {low high : Int32} (K : post (nI (dt_sm (dt_c h low high) 4096))) : wpY_count post (E, wt, h, v, P, Kk, N, hB, vB) low high := by
  unfold wpY_count
  exact ⟨4096 + 1, dt_y5 K 4096 0 (by omega)⟩
end

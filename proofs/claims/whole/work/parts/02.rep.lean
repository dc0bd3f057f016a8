/-! the map that page and notes stand for -/
def dt_Rep (ps sz nc : Nat) (pK pV nK nV nP h v : Nat → Int32) : Prop :=
  (∀ p, p < sz + nc → ∃ k, k < 4096 ∧ dt_at pK ps sz nK p = nI k) ∧
  ∀ k, k < 4096 → (h k = 0 ∧ dt_pl pK ps sz nK nP nc (nI k) = none) ∨ (h k = 1 ∧ ∃ p, dt_pl pK ps sz nK nP nc (nI k) = some p ∧ dt_at pV ps sz nV p = v k)
def dt_E (h : Nat → Int32) : Nat := dt_sm (fun k => if h k = 0 then 0 else 1) 4096
theorem dt_one {c : Prop} [Decidable c] (h : (if c then 1 else 0) = 1) : c := by
  by_cases z : c
  · exact z
  · rw [if_neg z] at h; cases h
theorem dt_E_up {h : Nat → Int32} {k : Nat} (x : Int32) (hk : k < 4096) : dt_E (upd h k x) + (if h k = 0 then 0 else 1) = dt_E h + (if x = 0 then 0 else 1) := by
  have w := dt_sm_up (f := fun j => if upd h k x j = 0 then 0 else 1) (g := fun j => if h j = 0 then 0 else 1) hk (fun j _ hj => by
    show (if upd h k x j = 0 then 0 else 1) = (if h j = 0 then 0 else 1)
    rw [pk_un hj])
  have e : (if upd h k x k = 0 then 0 else 1) = if x = 0 then 0 else 1 := by rw [pk_us]
  rw [← e]
  exact w
theorem dt_E_add {h : Nat → Int32} {k : Nat} (hk : k < 4096) (z : h k = 0) : dt_E (upd h k 1) = dt_E h + 1 := by
  have w := dt_E_up (h := h) 1 hk
  rw [if_pos z, if_neg (by decide)] at w
  omega
theorem dt_E_sub {h : Nat → Int32} {k : Nat} (hk : k < 4096) (z : h k = 1) : dt_E (upd h k 0) + 1 = dt_E h := by
  have w := dt_E_up (h := h) 0 hk
  rw [if_neg (by rw [z]; decide), if_pos rfl] at w
  omega
theorem dt_E_same {h : Nat → Int32} {k : Nat} {x : Int32} (z : h k = x) : upd h k x = h := by
  funext j
  by_cases e : j = k
  · subst e; rw [pk_us, z]
  · rw [pk_un e]
section
variable {pK pV nK nV nP pK' pV' nK' nV' nP' h v : Nat → Int32} {ps sz nc : Nat}
theorem dt_Rep_01 (R : dt_Rep ps sz nc pK pV nK nV nP h v) {k : Nat} (hk : k < 4096) : h k = 0 ∨ h k = 1 := by
  rcases R.2 k hk with z | z
  · exact Or.inl z.1
  · exact Or.inr z.1
theorem dt_Rep_cg (R : dt_Rep ps sz nc pK pV nK nV nP h v) (a1 : ∀ c, c < sz → pK' (ps + c) = pK (ps + c)) (a2 : ∀ c, c < sz → pV' (ps + c) = pV (ps + c))
    (a3 : ∀ m, m < nc → nK' m = nK m) (a4 : ∀ m, m < nc → nV' m = nV m) (a5 : ∀ m, m < nc → nP' m = nP m) : dt_Rep ps sz nc pK' pV' nK' nV' nP' h v := by
  refine ⟨fun p hp => ?_, fun k hk => ?_⟩
  · rw [dt_at_cg a1 a3 hp]; exact R.1 p hp
  · rw [dt_pl_cg a1 a3 a5]
    rcases R.2 k hk with z | ⟨z, p, hp, hv⟩
    · exact Or.inl z
    · exact Or.inr ⟨z, p, hp, by rw [dt_at_cg a2 a4 (dt_pl_some hp).1]; exact hv⟩
theorem dt_Rep_note (R : dt_Rep ps sz nc pK pV nK nV nP h v) {k : Nat} (hk : k < 4096) {x y b : Int32} (hb : b = 0 ∨ (b = 1 ∧ x = y)) :
    dt_Rep ps sz (nc + 1) pK pV (upd nK nc (nI k)) (upd nV nc x) (upd nP nc b) (upd h k b) (upd v k y) := by
  refine ⟨fun p hp => ?_, fun j hj => ?_⟩
  · by_cases e : p = sz + nc
    · subst e
      exact ⟨k, hk, by rw [dt_at_hi, pk_us]⟩
    · rw [dt_at_cg (pK := pK) (nK := nK) (nc := nc) (fun _ _ => rfl) (fun m hm => pk_un (by omega)) (by omega)]
      exact R.1 p (by omega)
  · by_cases e : j = k
    · subst e
      have f : dt_fn (upd nK nc (nI j)) (nI j) (nc + 1) = some nc := by
        show (if upd nK nc (nI j) nc = nI j then some nc else dt_fn (upd nK nc (nI j)) (nI j) nc) = some nc
        rw [pk_us, if_pos rfl]
      rw [dt_pl_n f, pk_us, pk_us, pk_us]
      rcases hb with rfl | ⟨rfl, rfl⟩
      · exact Or.inl ⟨rfl, if_pos rfl⟩
      · exact Or.inr ⟨rfl, sz + nc, if_neg (by decide), by rw [dt_at_hi, pk_us]⟩
    · have f : dt_fn (upd nK nc (nI k)) (nI j) (nc + 1) = dt_fn nK (nI j) nc := by
        show (if upd nK nc (nI k) nc = nI j then some nc else dt_fn (upd nK nc (nI k)) (nI j) nc) = dt_fn nK (nI j) nc
        rw [pk_us, if_neg (by rw [nI_eq (by omega) (by omega)]; omega)]
        exact dt_fn_cg (fun m hm => pk_un (by omega))
      have g : dt_pl pK ps sz (upd nK nc (nI k)) (upd nP nc b) (nc + 1) (nI j) = dt_pl pK ps sz nK nP nc (nI j) := by
        cases z : dt_fn nK (nI j) nc with
        | some n => rw [dt_pl_n z, dt_pl_n (f.trans z), pk_un (by have := (dt_fn_some z).1; omega)]
        | none => rw [dt_pl_c z, dt_pl_c (f.trans z)]
      rw [g, pk_un e, pk_un e]
      rcases R.2 j hj with z | ⟨z, p, hp, hv⟩
      · exact Or.inl z
      · refine Or.inr ⟨z, p, hp, ?_⟩
        rw [← hv]
        exact dt_at_cg (nc := nc) (fun _ _ => rfl) (fun m hm => pk_un (by omega)) (dt_pl_some hp).1
theorem dt_Rep_new {s : Nat} (hv : ∀ k, k < 4096 → h k = 0 ∨ h k = 1) (hc : ∀ c, c < s → ∃ k, k < 4096 ∧ pK (ps + c) = nI k ∧ h k = 1 ∧ pV (ps + c) = v k)
    (ha : ∀ k, k < 4096 → h k = 1 → ∃ c, c < s ∧ pK (ps + c) = nI k) : dt_Rep ps s 0 pK pV nK nV nP h v := by
  refine ⟨fun p hp => ?_, fun k hk => ?_⟩
  · obtain ⟨k, hk, e, _⟩ := hc p (by omega)
    exact ⟨k, hk, by rw [dt_at_lo (by omega)]; exact e⟩
  · have f : dt_fn nK (nI k) 0 = none := rfl
    rw [dt_pl_c f]
    cases z : dt_fc (fun c => pK (ps + c)) (nI k) s 0 with
    | none =>
      refine Or.inl ⟨?_, rfl⟩
      rcases hv k hk with y | y
      · exact y
      · obtain ⟨c, hc', e⟩ := ha k hk y
        exact absurd e (dt_fc_none z c (by omega) (by omega))
    | some c =>
      obtain ⟨_, h2, h3⟩ := dt_fc_some z
      obtain ⟨j, hj, e, hh, hvv⟩ := hc c (by omega)
      have h4 : pK (ps + c) = nI k := h3
      have h5 : j = k := (nI_eq (by omega) (by omega)).mp (e.symm.trans h4)
      subst h5
      exact Or.inr ⟨hh, c, rfl, by rw [dt_at_lo (by omega)]; exact hvv⟩
theorem dt_Rep_out (R : dt_Rep ps sz nc pK pV nK nV nP h v) {key : Int32} (hk : ∀ k, k < 4096 → key ≠ nI k) : dt_pl pK ps sz nK nP nc key = none := by
  cases z : dt_pl pK ps sz nK nP nc key with
  | none => rfl
  | some p =>
    obtain ⟨hp, e⟩ := dt_pl_some z
    obtain ⟨k, hk', e'⟩ := R.1 p hp
    exact absurd (e.symm.trans e') (hk k hk')
def dt_lv (pK : Nat → Int32) (ps sz : Nat) (nK nP : Nat → Int32) (nc : Nat) (Q : Int32 → Bool) (p : Nat) : Nat :=
  if dt_pl pK ps sz nK nP nc (dt_at pK ps sz nK p) = some p ∧ Q (dt_at pK ps sz nK p) = true then 1 else 0
theorem dt_Rep_cnt (R : dt_Rep ps sz nc pK pV nK nV nP h v) (Q : Int32 → Bool) :
    dt_sm (dt_lv pK ps sz nK nP nc Q) (sz + nc) = dt_sm (fun k => if h k = 0 then 0 else if Q (nI k) = true then 1 else 0) 4096 := by
  have key : ∀ p k, p < sz + nc → k < 4096 → dt_lv pK ps sz nK nP nc Q p = 1 → (dt_at pK ps sz nK p).toNatClampNeg = k → dt_pl pK ps sz nK nP nc (nI k) = some p ∧ Q (nI k) = true := by
    intro p k hp hk h1 e
    have c := dt_one h1
    obtain ⟨j, hj, ej⟩ := R.1 p hp
    rw [ej, nI_clamp (by omega)] at e
    subst e
    rw [ej] at c
    exact c
  refine dt_bij (f := fun p => (dt_at pK ps sz nK p).toNatClampNeg) (fun p hp => ?_) (fun k hk => ?_)
  · obtain ⟨k, hk, e⟩ := R.1 p hp
    by_cases c : dt_pl pK ps sz nK nP nc (dt_at pK ps sz nK p) = some p ∧ Q (dt_at pK ps sz nK p) = true
    · refine Or.inr ⟨if_pos c, ?_⟩
      show (dt_at pK ps sz nK p).toNatClampNeg < 4096
      rw [e, nI_clamp (by omega)]; exact hk
    · exact Or.inl (if_neg c)
  · show ((if h k = 0 then 0 else if Q (nI k) = true then 1 else 0) = 0 ∧ _) ∨ ((if h k = 0 then 0 else if Q (nI k) = true then 1 else 0) = 1 ∧ _)
    rcases R.2 k hk with ⟨z, w⟩ | ⟨z, p, hp, _⟩
    · refine Or.inl ⟨if_pos z, fun p hp h1 e => ?_⟩
      have := (key p k hp hk h1 e).1
      rw [w] at this; cases this
    · have z0 : ¬ h k = 0 := by rw [z]; decide
      rw [if_neg z0]
      obtain ⟨hp1, hp2⟩ := dt_pl_some hp
      by_cases q : Q (nI k) = true
      · refine Or.inr ⟨if_pos q, p, hp1, if_pos ⟨by rw [hp2]; exact hp, by rw [hp2]; exact q⟩, ?_, fun r hr h1 e => ?_⟩
        · show (dt_at pK ps sz nK p).toNatClampNeg = k
          rw [hp2, nI_clamp (by omega)]
        · have := (key r k hr hk h1 e).1
          rw [hp] at this; cases this; rfl
      · exact Or.inl ⟨if_neg q, fun p hp h1 e => q (key p k hp hk h1 e).2⟩
theorem dt_Rep_E (R : dt_Rep ps sz nc pK pV nK nV nP h v) : dt_sm (dt_lv pK ps sz nK nP nc (fun _ => true)) (sz + nc) = dt_E h := by
  rw [dt_Rep_cnt R]
  exact dt_sm_cg fun k _ => by
    show (if h k = 0 then 0 else if true = true then 1 else 0) = (if h k = 0 then 0 else 1)
    rw [if_pos rfl]
/-! a page made anew: the places below p are through, s of them were copied behind st -/
def dt_New (ps sz nc : Nat) (pK pV nK nV nP h v : Nat → Int32) (st p s : Nat) (qK qV : Nat → Int32) : Prop :=
  (∀ c, c < sz → qK (ps + c) = pK (ps + c)) ∧ (∀ c, c < sz → qV (ps + c) = pV (ps + c)) ∧ s = dt_sm (dt_lv pK ps sz nK nP nc (fun _ => true)) p ∧
  (∀ c, c < s → ∃ k, k < 4096 ∧ qK (st + c) = nI k ∧ h k = 1 ∧ qV (st + c) = v k) ∧
  (∀ q, q < p → dt_pl pK ps sz nK nP nc (dt_at pK ps sz nK q) = some q → ∃ c, c < s ∧ qK (st + c) = dt_at pK ps sz nK q)
theorem dt_New_0 (st : Nat) : dt_New ps sz nc pK pV nK nV nP h v st 0 0 pK pV :=
  ⟨fun _ _ => rfl, fun _ _ => rfl, rfl, fun c hc => by omega, fun q hq => by omega⟩
theorem dt_New_skip {st p s : Nat} {qK qV : Nat → Int32} (I : dt_New ps sz nc pK pV nK nV nP h v st p s qK qV) (n : ¬ dt_pl pK ps sz nK nP nc (dt_at pK ps sz nK p) = some p) : dt_New ps sz nc pK pV nK nV nP h v st (p + 1) s qK qV := by
  obtain ⟨i1, i2, i3, i4, i5⟩ := I
  refine ⟨i1, i2, ?_, i4, fun q hq hl => ?_⟩
  · show s = dt_sm (dt_lv pK ps sz nK nP nc (fun _ => true)) p + dt_lv pK ps sz nK nP nc (fun _ => true) p
    rw [← i3, show dt_lv pK ps sz nK nP nc (fun _ => true) p = 0 from if_neg (fun z => n z.1)]
    rfl
  · by_cases e : q = p
    · subst e; exact absurd hl n
    · exact i5 q (by omega) hl
theorem dt_New_take (R : dt_Rep ps sz nc pK pV nK nV nP h v) {st p s : Nat} {qK qV : Nat → Int32} (I : dt_New ps sz nc pK pV nK nV nP h v st p s qK qV)
    (hp : p < sz + nc) (hd : ∀ c, c < sz → ps + c ≠ st + s) (y : dt_pl pK ps sz nK nP nc (dt_at pK ps sz nK p) = some p) :
    dt_New ps sz nc pK pV nK nV nP h v st (p + 1) (s + 1) (upd qK (st + s) (dt_at pK ps sz nK p)) (upd qV (st + s) (dt_at pV ps sz nV p)) := by
  obtain ⟨i1, i2, i3, i4, i5⟩ := I
  refine ⟨fun c hc => ?_, fun c hc => ?_, ?_, fun c hc => ?_, fun q hq hl => ?_⟩
  · rw [pk_un (hd c hc)]; exact i1 c hc
  · rw [pk_un (hd c hc)]; exact i2 c hc
  · show s + 1 = dt_sm (dt_lv pK ps sz nK nP nc (fun _ => true)) p + dt_lv pK ps sz nK nP nc (fun _ => true) p
    rw [← i3, show dt_lv pK ps sz nK nP nc (fun _ => true) p = 1 from if_pos ⟨y, rfl⟩]
  · by_cases e : c = s
    · subst e
      obtain ⟨k, hk, ek⟩ := R.1 p hp
      rw [ek] at y
      rw [pk_us, pk_us, ek]
      rcases R.2 k hk with ⟨_, w⟩ | ⟨z, r, hr, hv⟩
      · rw [w] at y; cases y
      · rw [hr] at y; cases y
        exact ⟨k, hk, rfl, z, hv⟩
    · rw [pk_un (by omega), pk_un (by omega)]
      exact i4 c (by omega)
  · by_cases e : q = p
    · subst e
      exact ⟨s, by omega, pk_us⟩
    · obtain ⟨c, hc, ec⟩ := i5 q (by omega) hl
      exact ⟨c, by omega, by rw [pk_un (by omega)]; exact ec⟩
theorem dt_New_end (R : dt_Rep ps sz nc pK pV nK nV nP h v) (hE : dt_E h ≤ 60) {st p s : Nat} {qK qV mK mV mP : Nat → Int32} (I : dt_New ps sz nc pK pV nK nV nP h v st p s qK qV)
    (hp : sz + nc ≤ p ∨ 60 ≤ s) : dt_Rep st s 0 qK qV mK mV mP h v := by
  obtain ⟨i1, i2, i3, i4, i5⟩ := I
  refine dt_Rep_new (fun k hk => dt_Rep_01 R hk) i4 fun k hk hh => ?_
  rcases R.2 k hk with ⟨z, _⟩ | ⟨_, r, hr, _⟩
  · rw [z] at hh; exact absurd hh (by decide)
  · obtain ⟨h1, h2⟩ := dt_pl_some hr
    have hl : dt_pl pK ps sz nK nP nc (dt_at pK ps sz nK r) = some r := by rw [h2]; exact hr
    by_cases c : r < p
    · rw [← h2]; exact i5 r c hl
    · have w := dt_sm_le (dt_lv pK ps sz nK nP nc (fun _ => true)) (a := p) (b := r) (by omega)
      have w2 := dt_sm_le (dt_lv pK ps sz nK nP nc (fun _ => true)) (a := r + 1) (b := sz + nc) (by omega)
      have w3 : dt_sm (dt_lv pK ps sz nK nP nc (fun _ => true)) (r + 1) = dt_sm (dt_lv pK ps sz nK nP nc (fun _ => true)) r + 1 := by
        show dt_sm (dt_lv pK ps sz nK nP nc (fun _ => true)) r + dt_lv pK ps sz nK nP nc (fun _ => true) r = _
        rw [show dt_lv pK ps sz nK nP nc (fun _ => true) r = 1 from if_pos ⟨hl, rfl⟩]
      have w4 := dt_Rep_E R
      omega
end

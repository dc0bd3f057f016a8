/-! pure rows: stores and numbers (begun from kit/rows), sums, the place of a key -/
theorem pk_us {f : Nat → Int32} {k : Nat} {x : Int32} : upd f k x k = x := if_pos rfl
theorem pk_un {f : Nat → Int32} {k j : Nat} {x : Int32} (h : j ≠ k) : upd f k x j = f j := if_neg h
theorem pk_sub {a b : Nat} (h : b ≤ a) : nI a - nI b = nI (a - b) := by
  obtain ⟨c, rfl⟩ : ∃ c, a = c + b := ⟨a - b, by omega⟩
  rw [← nI_add, Int32.add_sub_cancel, Nat.add_sub_cancel]
theorem pk_m1 (n : Nat) : nI (n + 1) + (-1) = nI n := by
  rw [← nI_1, Int32.add_assoc, show (1 : Int32) + (-1) = 0 from rfl, Int32.add_zero]
theorem pk_le {x y : Int32} {A B : Prop} (a b : Nat) (f : a ≤ b → A) (g : b < a → B) (hx : x = nI a := by rfl) (hy : y = nI b := by rfl) (ha : a < 2 ^ 31 := by omega) (hb : b < 2 ^ 31 := by omega) : (x ≤ y → A) ∧ (¬ x ≤ y → B) := by
  subst hx hy
  rw [nI_leI ha hb]
  exact ⟨f, fun z => g (by omega)⟩
theorem pk_lt {x y : Int32} {A B : Prop} (a b : Nat) (f : a < b → A) (g : b ≤ a → B) (hx : x = nI a := by rfl) (hy : y = nI b := by rfl) (ha : a < 2 ^ 31 := by omega) (hb : b < 2 ^ 31 := by omega) : (x < y → A) ∧ (¬ x < y → B) := by
  subst hx hy
  rw [nI_ltI ha hb]
  exact ⟨f, fun z => g (by omega)⟩
theorem pk_eq {x y : Int32} {A B : Prop} (a b : Nat) (f : a = b → A) (g : a ≠ b → B) (hx : x = nI a := by rfl) (hy : y = nI b := by rfl) (ha : a < 2 ^ 31 := by omega) (hb : b < 2 ^ 31 := by omega) : (x = y → A) ∧ (¬ x = y → B) := by
  subst hx hy
  rw [nI_eq ha hb]
  exact ⟨f, g⟩
theorem pk_in {x : Int32} (n N : Nat) (h : n < N) (hx : x = nI n := by rfl) (hN : N < 2 ^ 31 := by omega) : vp_in x N := by
  subst hx
  exact vp_in_nI h hN
theorem pk_cl {x : Int32} (n : Nat) (hx : x = nI n := by rfl) (h : n < 2 ^ 31 := by omega) : x.toNatClampNeg = n := by
  subst hx
  exact nI_clamp h
/-! sums -/
def dt_sm (f : Nat → Nat) : Nat → Nat
  | 0 => 0
  | n + 1 => dt_sm f n + f n
theorem dt_sm_cg {f g : Nat → Nat} {n : Nat} (h : ∀ i, i < n → f i = g i) : dt_sm f n = dt_sm g n := by
  induction n with
  | zero => rfl
  | succ n ih =>
    show dt_sm f n + f n = dt_sm g n + g n
    rw [ih (fun i hi => h i (by omega)), h n (by omega)]
theorem dt_sm_add (f g : Nat → Nat) (n : Nat) : dt_sm (fun i => f i + g i) n = dt_sm f n + dt_sm g n := by
  induction n with
  | zero => rfl
  | succ n ih =>
    show dt_sm (fun i => f i + g i) n + (f n + g n) = dt_sm f n + f n + (dt_sm g n + g n)
    rw [ih]; omega
theorem dt_sm_z (n : Nat) : dt_sm (fun _ => 0) n = 0 := by
  induction n with
  | zero => rfl
  | succ n ih =>
    show dt_sm (fun _ => 0) n + 0 = 0
    rw [ih]
theorem dt_sm_0 {f : Nat → Nat} {n : Nat} (h : ∀ j, j < n → f j = 0) : dt_sm f n = 0 := (dt_sm_cg (g := fun _ => 0) h).trans (dt_sm_z n)
theorem dt_sm_sw (f : Nat → Nat → Nat) (n m : Nat) : dt_sm (fun i => dt_sm (f i) m) n = dt_sm (fun j => dt_sm (fun i => f i j) n) m := by
  induction n with
  | zero => exact (dt_sm_z m).symm
  | succ n ih =>
    show dt_sm (fun i => dt_sm (f i) m) n + dt_sm (f n) m = dt_sm (fun j => dt_sm (fun i => f i j) n + f n j) m
    rw [ih, dt_sm_add]
theorem dt_sm_1 {f : Nat → Nat} {n i : Nat} (hi : i < n) (h1 : f i = 1) (h0 : ∀ j, j < n → j ≠ i → f j = 0) : dt_sm f n = 1 := by
  induction n with
  | zero => omega
  | succ n ih =>
    show dt_sm f n + f n = 1
    by_cases e : i = n
    · subst e
      rw [h1, dt_sm_0 (fun j hj => h0 j (by omega) (by omega))]
    · rw [ih (by omega) (fun j hj => h0 j (by omega)), h0 n (by omega) (by omega)]
theorem dt_sm_up {f g : Nat → Nat} {n k : Nat} (hk : k < n) (h : ∀ j, j < n → j ≠ k → f j = g j) : dt_sm f n + g k = dt_sm g n + f k := by
  induction n with
  | zero => omega
  | succ n ih =>
    show dt_sm f n + f n + g k = dt_sm g n + g n + f k
    by_cases e : k = n
    · subst e
      rw [dt_sm_cg (f := f) (g := g) (fun j hj => h j (by omega) (by omega))]; omega
    · have := ih (by omega) (fun j hj => h j (by omega))
      have := h n (by omega) (by omega)
      omega
theorem dt_sm_le (f : Nat → Nat) {a b : Nat} (h : a ≤ b) : dt_sm f a ≤ dt_sm f b := by
  induction b with
  | zero => obtain rfl : a = 0 := by omega
            exact Nat.le_refl _
  | succ b ih =>
    by_cases e : a = b + 1
    · subst e; exact Nat.le_refl _
    · exact Nat.le_trans (ih (by omega)) (Nat.le_add_right _ _)
theorem dt_bij {a b f : Nat → Nat} {n m : Nat} (ha : ∀ p, p < n → a p = 0 ∨ (a p = 1 ∧ f p < m))
    (hb : ∀ k, k < m → (b k = 0 ∧ ∀ p, p < n → a p = 1 → f p ≠ k) ∨ (b k = 1 ∧ ∃ p, p < n ∧ a p = 1 ∧ f p = k ∧ ∀ q, q < n → a q = 1 → f q = k → q = p)) : dt_sm a n = dt_sm b m := by
  have e1 : dt_sm a n = dt_sm (fun p => dt_sm (fun k => if f p = k then a p else 0) m) n := by
    refine dt_sm_cg fun p hp => ?_
    rcases ha p hp with z | ⟨z, hm⟩
    · rw [dt_sm_0 (f := fun k => if f p = k then a p else 0), z]
      intro j _
      show (if f p = j then a p else 0) = 0
      rw [z]; split <;> rfl
    · rw [z, dt_sm_1 (f := fun k => if f p = k then 1 else 0) hm (if_pos rfl)]
      intro j _ hj
      exact if_neg (fun e => hj e.symm)
  rw [e1, dt_sm_sw]
  refine dt_sm_cg fun k hk => ?_
  rcases hb k hk with ⟨z, w⟩ | ⟨z, p, hp, hp1, hpk, hu⟩
  · rw [z]
    refine dt_sm_0 fun p hp => ?_
    show (if f p = k then a p else 0) = 0
    by_cases e : f p = k
    · rw [if_pos e]
      rcases ha p hp with y | ⟨y, _⟩
      · exact y
      · exact absurd e (w p hp y)
    · exact if_neg e
  · rw [z]
    refine dt_sm_1 hp ?_ fun q hq hne => ?_
    · show (if f p = k then a p else 0) = 1
      rw [if_pos hpk, hp1]
    · show (if f q = k then a q else 0) = 0
      by_cases e : f q = k
      · rw [if_pos e]
        rcases ha q hq with y | ⟨y, _⟩
        · exact y
        · exact absurd (hu q hq y e) hne
      · exact if_neg e
/-! where a key is seen -/
def dt_fn (nK : Nat → Int32) (key : Int32) : Nat → Option Nat
  | 0 => none
  | n + 1 => if nK n = key then some n else dt_fn nK key n
def dt_fc (f : Nat → Int32) (key : Int32) : Nat → Nat → Option Nat
  | 0, _ => none
  | d + 1, c => if f c = key then some c else dt_fc f key d (c + 1)
def dt_pl (pK : Nat → Int32) (ps sz : Nat) (nK nP : Nat → Int32) (nc : Nat) (key : Int32) : Option Nat :=
  match dt_fn nK key nc with
  | some n => if nP n = 0 then none else some (sz + n)
  | none => dt_fc (fun c => pK (ps + c)) key sz 0
def dt_at (pK : Nat → Int32) (ps sz : Nat) (nK : Nat → Int32) (p : Nat) : Int32 := if p < sz then pK (ps + p) else nK (p - sz)
def dt_enc : Option Nat → Int32
  | none => -1
  | some p => nI p
theorem dt_fn_some {nK : Nat → Int32} {key : Int32} {n m : Nat} (h : dt_fn nK key n = some m) : m < n ∧ nK m = key := by
  induction n with
  | zero => exact absurd h (by intro z; cases z)
  | succ n ih =>
    have h' : (if nK n = key then some n else dt_fn nK key n) = some m := h
    by_cases e : nK n = key
    · rw [if_pos e] at h'
      cases h'
      exact ⟨by omega, e⟩
    · rw [if_neg e] at h'
      have := ih h'
      exact ⟨by omega, this.2⟩
theorem dt_fn_none {nK : Nat → Int32} {key : Int32} {n : Nat} (h : dt_fn nK key n = none) : ∀ m, m < n → nK m ≠ key := by
  induction n with
  | zero => intro m hm; omega
  | succ n ih =>
    have h' : (if nK n = key then some n else dt_fn nK key n) = none := h
    by_cases e : nK n = key
    · rw [if_pos e] at h'; cases h'
    · rw [if_neg e] at h'
      intro m hm
      by_cases z : m = n
      · subst z; exact e
      · exact ih h' m (by omega)
theorem dt_fn_cg {nK nK' : Nat → Int32} {key : Int32} {n : Nat} (h : ∀ m, m < n → nK' m = nK m) : dt_fn nK' key n = dt_fn nK key n := by
  induction n with
  | zero => rfl
  | succ n ih =>
    show (if nK' n = key then some n else dt_fn nK' key n) = (if nK n = key then some n else dt_fn nK key n)
    rw [h n (by omega), ih (fun m hm => h m (by omega))]
theorem dt_fc_some {f : Nat → Int32} {key : Int32} {d : Nat} : ∀ {c m : Nat}, dt_fc f key d c = some m → c ≤ m ∧ m < c + d ∧ f m = key := by
  induction d with
  | zero => intro c m h; exact absurd h (by intro z; cases z)
  | succ d ih =>
    intro c m h
    have h' : (if f c = key then some c else dt_fc f key d (c + 1)) = some m := h
    by_cases e : f c = key
    · rw [if_pos e] at h'
      cases h'
      exact ⟨Nat.le_refl _, by omega, e⟩
    · rw [if_neg e] at h'
      have := ih h'
      exact ⟨by omega, by omega, this.2.2⟩
theorem dt_fc_none {f : Nat → Int32} {key : Int32} {d : Nat} : ∀ {c : Nat}, dt_fc f key d c = none → ∀ m, c ≤ m → m < c + d → f m ≠ key := by
  induction d with
  | zero => intro c _ m h1 h2; omega
  | succ d ih =>
    intro c h m h1 h2
    have h' : (if f c = key then some c else dt_fc f key d (c + 1)) = none := h
    by_cases e : f c = key
    · rw [if_pos e] at h'; cases h'
    · rw [if_neg e] at h'
      by_cases z : m = c
      · subst z; exact e
      · exact ih h' m (by omega) (by omega)
theorem dt_fc_cg {f g : Nat → Int32} {key : Int32} {d : Nat} : ∀ {c : Nat}, (∀ m, c ≤ m → m < c + d → f m = g m) → dt_fc f key d c = dt_fc g key d c := by
  induction d with
  | zero => intro c _; rfl
  | succ d ih =>
    intro c h
    show (if f c = key then some c else dt_fc f key d (c + 1)) = (if g c = key then some c else dt_fc g key d (c + 1))
    rw [h c (by omega) (by omega), ih (fun m h1 h2 => h m (by omega) (by omega))]
section
variable {pK pV nK nV nP pK' pV' nK' nV' nP' h v : Nat → Int32} {ps sz nc : Nat}
theorem dt_pl_n {n : Nat} {key : Int32} (e : dt_fn nK key nc = some n) : dt_pl pK ps sz nK nP nc key = if nP n = 0 then none else some (sz + n) := by
  unfold dt_pl; rw [e]
theorem dt_pl_c {key : Int32} (e : dt_fn nK key nc = none) : dt_pl pK ps sz nK nP nc key = dt_fc (fun c => pK (ps + c)) key sz 0 := by
  unfold dt_pl; rw [e]
theorem dt_at_lo {p : Nat} (hp : p < sz) : dt_at pK ps sz nK p = pK (ps + p) := if_pos hp
theorem dt_at_hi (n : Nat) : dt_at pK ps sz nK (sz + n) = nK n := by
  unfold dt_at
  rw [if_neg (by omega), Nat.add_sub_cancel_left]
theorem dt_pl_some {key : Int32} {p : Nat} (e : dt_pl pK ps sz nK nP nc key = some p) : p < sz + nc ∧ dt_at pK ps sz nK p = key := by
  cases z : dt_fn nK key nc with
  | some n =>
    rw [dt_pl_n z] at e
    have w := dt_fn_some z
    by_cases y : nP n = 0
    · rw [if_pos y] at e; cases e
    · rw [if_neg y] at e
      cases e
      exact ⟨by omega, by rw [dt_at_hi]; exact w.2⟩
  | none =>
    rw [dt_pl_c z] at e
    have w := dt_fc_some e
    exact ⟨by omega, by rw [dt_at_lo (by omega)]; exact w.2.2⟩
theorem dt_pl_cg (hp : ∀ c, c < sz → pK' (ps + c) = pK (ps + c)) (hk : ∀ m, m < nc → nK' m = nK m) (hP : ∀ m, m < nc → nP' m = nP m) (key : Int32) : dt_pl pK' ps sz nK' nP' nc key = dt_pl pK ps sz nK nP nc key := by
  cases z : dt_fn nK key nc with
  | some n =>
    rw [dt_pl_n z, dt_pl_n ((dt_fn_cg hk).trans z), hP n (dt_fn_some z).1]
  | none =>
    rw [dt_pl_c z, dt_pl_c ((dt_fn_cg hk).trans z)]
    exact dt_fc_cg (fun m _ h2 => hp m (by omega))
theorem dt_at_cg (hp : ∀ c, c < sz → pK' (ps + c) = pK (ps + c)) (hk : ∀ m, m < nc → nK' m = nK m) {p : Nat} (h : p < sz + nc) : dt_at pK' ps sz nK' p = dt_at pK ps sz nK p := by
  unfold dt_at
  by_cases z : p < sz
  · rw [if_pos z, if_pos z]; exact hp p z
  · rw [if_neg z, if_neg z]; exact hk _ (by omega)
end

section
/-! pure rows: stores and numbers (begun from kit/rows), sums, the place of a key -/
theorem pk_us {f : Nat → Int32} {k : Nat} {x : Int32} : upd f k x k = x := if_pos rfl
theorem pk_un {f : Nat → Int32} {k j : Nat} {x : Int32} (h : j ≠ k) : upd f k x j = f j := if_neg h
theorem pk_sub {a b : Nat} (h : b ≤ a) : nI a - nI b = nI (a - b) := by
  obtain ⟨c, rfl⟩ : ∃ c, a = c + b := ⟨a - b, by omega⟩
  rw [← nI_add, Int32.add_sub_cancel, Nat.add_sub_cancel]
theorem pk_m1 (n : Nat) : nI (n + 1) + (-1) = nI n := by
  rw [← nI_1, Int32.add_assoc, show (1 : Int32) + (-1) = 0 from rfl, Int32.add_zero]
theorem pk_le {x y : Int32} {A B : Prop} (a b : Nat) (f : a ≤ b → A) (g : b < a → B) (hx : x = nI a := by rfl) (hy : y = nI b := by rfl) (ha : a < 2 ^ 31 := by omega) (hb : b < 2 ^ 31 := by omega) : (x ≤ y → A) ∧ (¬ x ≤ y → B) := by
  subst hx hy
  rw [nI_leI ha hb]
  exact ⟨f, fun z => g (by omega)⟩
theorem pk_lt {x y : Int32} {A B : Prop} (a b : Nat) (f : a < b → A) (g : b ≤ a → B) (hx : x = nI a := by rfl) (hy : y = nI b := by rfl) (ha : a < 2 ^ 31 := by omega) (hb : b < 2 ^ 31 := by omega) : (x < y → A) ∧ (¬ x < y → B) := by
  subst hx hy
  rw [nI_ltI ha hb]
  exact ⟨f, fun z => g (by omega)⟩
theorem pk_eq {x y : Int32} {A B : Prop} (a b : Nat) (f : a = b → A) (g : a ≠ b → B) (hx : x = nI a := by rfl) (hy : y = nI b := by rfl) (ha : a < 2 ^ 31 := by omega) (hb : b < 2 ^ 31 := by omega) : (x = y → A) ∧ (¬ x = y → B) := by
  subst hx hy
  rw [nI_eq ha hb]
  exact ⟨f, g⟩
theorem pk_in {x : Int32} (n N : Nat) (h : n < N) (hx : x = nI n := by rfl) (hN : N < 2 ^ 31 := by omega) : vp_in x N := by
  subst hx
  exact vp_in_nI h hN
theorem pk_cl {x : Int32} (n : Nat) (hx : x = nI n := by rfl) (h : n < 2 ^ 31 := by omega) : x.toNatClampNeg = n := by
  subst hx
  exact nI_clamp h
/-! sums -/
def dt_sm (f : Nat → Nat) : Nat → Nat
  | 0 => 0
  | n + 1 => dt_sm f n + f n
theorem dt_sm_cg {f g : Nat → Nat} {n : Nat} (h : ∀ i, i < n → f i = g i) : dt_sm f n = dt_sm g n := by
  induction n with
  | zero => rfl
  | succ n ih =>
    show dt_sm f n + f n = dt_sm g n + g n
    rw [ih (fun i hi => h i (by omega)), h n (by omega)]
theorem dt_sm_add (f g : Nat → Nat) (n : Nat) : dt_sm (fun i => f i + g i) n = dt_sm f n + dt_sm g n := by
  induction n with
  | zero => rfl
  | succ n ih =>
    show dt_sm (fun i => f i + g i) n + (f n + g n) = dt_sm f n + f n + (dt_sm g n + g n)
    rw [ih]; omega
theorem dt_sm_z (n : Nat) : dt_sm (fun _ => 0) n = 0 := by
  induction n with
  | zero => rfl
  | succ n ih =>
    show dt_sm (fun _ => 0) n + 0 = 0
    rw [ih]
theorem dt_sm_0 {f : Nat → Nat} {n : Nat} (h : ∀ j, j < n → f j = 0) : dt_sm f n = 0 := (dt_sm_cg (g := fun _ => 0) h).trans (dt_sm_z n)
theorem dt_sm_sw (f : Nat → Nat → Nat) (n m : Nat) : dt_sm (fun i => dt_sm (f i) m) n = dt_sm (fun j => dt_sm (fun i => f i j) n) m := by
  induction n with
  | zero => exact (dt_sm_z m).symm
  | succ n ih =>
    show dt_sm (fun i => dt_sm (f i) m) n + dt_sm (f n) m = dt_sm (fun j => dt_sm (fun i => f i j) n + f n j) m
    rw [ih, dt_sm_add]
theorem dt_sm_1 {f : Nat → Nat} {n i : Nat} (hi : i < n) (h1 : f i = 1) (h0 : ∀ j, j < n → j ≠ i → f j = 0) : dt_sm f n = 1 := by
  induction n with
  | zero => omega
  | succ n ih =>
    show dt_sm f n + f n = 1
    by_cases e : i = n
    · subst e
      rw [h1, dt_sm_0 (fun j hj => h0 j (by omega) (by omega))]
    · rw [ih (by omega) (fun j hj => h0 j (by omega)), h0 n (by omega) (by omega)]
theorem dt_sm_up {f g : Nat → Nat} {n k : Nat} (hk : k < n) (h : ∀ j, j < n → j ≠ k → f j = g j) : dt_sm f n + g k = dt_sm g n + f k := by
  induction n with
  | zero => omega
  | succ n ih =>
    show dt_sm f n + f n + g k = dt_sm g n + g n + f k
    by_cases e : k = n
    · subst e
      rw [dt_sm_cg (f := f) (g := g) (fun j hj => h j (by omega) (by omega))]; omega
    · have := ih (by omega) (fun j hj => h j (by omega))
      have := h n (by omega) (by omega)
      omega
theorem dt_sm_le (f : Nat → Nat) {a b : Nat} (h : a ≤ b) : dt_sm f a ≤ dt_sm f b := by
  induction b with
  | zero => obtain rfl : a = 0 := by omega
            exact Nat.le_refl _
  | succ b ih =>
    by_cases e : a = b + 1
    · subst e; exact Nat.le_refl _
    · exact Nat.le_trans (ih (by omega)) (Nat.le_add_right _ _)
theorem dt_bij {a b f : Nat → Nat} {n m : Nat} (ha : ∀ p, p < n → a p = 0 ∨ (a p = 1 ∧ f p < m))
    (hb : ∀ k, k < m → (b k = 0 ∧ ∀ p, p < n → a p = 1 → f p ≠ k) ∨ (b k = 1 ∧ ∃ p, p < n ∧ a p = 1 ∧ f p = k ∧ ∀ q, q < n → a q = 1 → f q = k → q = p)) : dt_sm a n = dt_sm b m := by
  have e1 : dt_sm a n = dt_sm (fun p => dt_sm (fun k => if f p = k then a p else 0) m) n := by
    refine dt_sm_cg fun p hp => ?_
    rcases ha p hp with z | ⟨z, hm⟩
    · rw [dt_sm_0 (f := fun k => if f p = k then a p else 0), z]
      intro j _
      show (if f p = j then a p else 0) = 0
      rw [z]; split <;> rfl
    · rw [z, dt_sm_1 (f := fun k => if f p = k then 1 else 0) hm (if_pos rfl)]
      intro j _ hj
      exact if_neg (fun e => hj e.symm)
  rw [e1, dt_sm_sw]
  refine dt_sm_cg fun k hk => ?_
  rcases hb k hk with ⟨z, w⟩ | ⟨z, p, hp, hp1, hpk, hu⟩
  · rw [z]
    refine dt_sm_0 fun p hp => ?_
    show (if f p = k then a p else 0) = 0
    by_cases e : f p = k
    · rw [if_pos e]
      rcases ha p hp with y | ⟨y, _⟩
      · exact y
      · exact absurd e (w p hp y)
    · exact if_neg e
  · rw [z]
    refine dt_sm_1 hp ?_ fun q hq hne => ?_
    · show (if f p = k then a p else 0) = 1
      rw [if_pos hpk, hp1]
    · show (if f q = k then a q else 0) = 0
      by_cases e : f q = k
      · rw [if_pos e]
        rcases ha q hq with y | ⟨y, _⟩
        · exact y
        · exact absurd (hu q hq y e) hne
      · exact if_neg e
/-! where a key is seen -/
def dt_fn (nK : Nat → Int32) (key : Int32) : Nat → Option Nat
  | 0 => none
  | n + 1 => if nK n = key then some n else dt_fn nK key n
def dt_fc (f : Nat → Int32) (key : Int32) : Nat → Nat → Option Nat
  | 0, _ => none
  | d + 1, c => if f c = key then some c else dt_fc f key d (c + 1)
def dt_pl (pK : Nat → Int32) (ps sz : Nat) (nK nP : Nat → Int32) (nc : Nat) (key : Int32) : Option Nat :=
  match dt_fn nK key nc with
  | some n => if nP n = 0 then none else some (sz + n)
  | none => dt_fc (fun c => pK (ps + c)) key sz 0
def dt_at (pK : Nat → Int32) (ps sz : Nat) (nK : Nat → Int32) (p : Nat) : Int32 := if p < sz then pK (ps + p) else nK (p - sz)
def dt_enc : Option Nat → Int32
  | none => -1
  | some p => nI p
theorem dt_fn_some {nK : Nat → Int32} {key : Int32} {n m : Nat} (h : dt_fn nK key n = some m) : m < n ∧ nK m = key := by
  induction n with
  | zero => exact absurd h (by intro z; cases z)
  | succ n ih =>
    have h' : (if nK n = key then some n else dt_fn nK key n) = some m := h
    by_cases e : nK n = key
    · rw [if_pos e] at h'
      cases h'
      exact ⟨by omega, e⟩
    · rw [if_neg e] at h'
      have := ih h'
      exact ⟨by omega, this.2⟩
theorem dt_fn_none {nK : Nat → Int32} {key : Int32} {n : Nat} (h : dt_fn nK key n = none) : ∀ m, m < n → nK m ≠ key := by
  induction n with
  | zero => intro m hm; omega
  | succ n ih =>
    have h' : (if nK n = key then some n else dt_fn nK key n) = none := h
    by_cases e : nK n = key
    · rw [if_pos e] at h'; cases h'
    · rw [if_neg e] at h'
      intro m hm
      by_cases z : m = n
      · subst z; exact e
      · exact ih h' m (by omega)
theorem dt_fn_cg {nK nK' : Nat → Int32} {key : Int32} {n : Nat} (h : ∀ m, m < n → nK' m = nK m) : dt_fn nK' key n = dt_fn nK key n := by
  induction n with
  | zero => rfl
  | succ n ih =>
    show (if nK' n = key then some n else dt_fn nK' key n) = (if nK n = key then some n else dt_fn nK key n)
    rw [h n (by omega), ih (fun m hm => h m (by omega))]
theorem dt_fc_some {f : Nat → Int32} {key : Int32} {d : Nat} : ∀ {c m : Nat}, dt_fc f key d c = some m → c ≤ m ∧ m < c + d ∧ f m = key := by
  induction d with
  | zero => intro c m h; exact absurd h (by intro z; cases z)
  | succ d ih =>
    intro c m h
    have h' : (if f c = key then some c else dt_fc f key d (c + 1)) = some m := h
    by_cases e : f c = key
    · rw [if_pos e] at h'
      cases h'
      exact ⟨Nat.le_refl _, by omega, e⟩
    · rw [if_neg e] at h'
      have := ih h'
      exact ⟨by omega, by omega, this.2.2⟩
theorem dt_fc_none {f : Nat → Int32} {key : Int32} {d : Nat} : ∀ {c : Nat}, dt_fc f key d c = none → ∀ m, c ≤ m → m < c + d → f m ≠ key := by
  induction d with
  | zero => intro c _ m h1 h2; omega
  | succ d ih =>
    intro c h m h1 h2
    have h' : (if f c = key then some c else dt_fc f key d (c + 1)) = none := h
    by_cases e : f c = key
    · rw [if_pos e] at h'; cases h'
    · rw [if_neg e] at h'
      by_cases z : m = c
      · subst z; exact e
      · exact ih h' m (by omega) (by omega)
theorem dt_fc_cg {f g : Nat → Int32} {key : Int32} {d : Nat} : ∀ {c : Nat}, (∀ m, c ≤ m → m < c + d → f m = g m) → dt_fc f key d c = dt_fc g key d c := by
  induction d with
  | zero => intro c _; rfl
  | succ d ih =>
    intro c h
    show (if f c = key then some c else dt_fc f key d (c + 1)) = (if g c = key then some c else dt_fc g key d (c + 1))
    rw [h c (by omega) (by omega), ih (fun m h1 h2 => h m (by omega) (by omega))]
section
variable {pK pV nK nV nP pK' pV' nK' nV' nP' h v : Nat → Int32} {ps sz nc : Nat}
theorem dt_pl_n {n : Nat} {key : Int32} (e : dt_fn nK key nc = some n) : dt_pl pK ps sz nK nP nc key = if nP n = 0 then none else some (sz + n) := by
  unfold dt_pl; rw [e]
theorem dt_pl_c {key : Int32} (e : dt_fn nK key nc = none) : dt_pl pK ps sz nK nP nc key = dt_fc (fun c => pK (ps + c)) key sz 0 := by
  unfold dt_pl; rw [e]
theorem dt_at_lo {p : Nat} (hp : p < sz) : dt_at pK ps sz nK p = pK (ps + p) := if_pos hp
theorem dt_at_hi (n : Nat) : dt_at pK ps sz nK (sz + n) = nK n := by
  unfold dt_at
  rw [if_neg (by omega), Nat.add_sub_cancel_left]
theorem dt_pl_some {key : Int32} {p : Nat} (e : dt_pl pK ps sz nK nP nc key = some p) : p < sz + nc ∧ dt_at pK ps sz nK p = key := by
  cases z : dt_fn nK key nc with
  | some n =>
    rw [dt_pl_n z] at e
    have w := dt_fn_some z
    by_cases y : nP n = 0
    · rw [if_pos y] at e; cases e
    · rw [if_neg y] at e
      cases e
      exact ⟨by omega, by rw [dt_at_hi]; exact w.2⟩
  | none =>
    rw [dt_pl_c z] at e
    have w := dt_fc_some e
    exact ⟨by omega, by rw [dt_at_lo (by omega)]; exact w.2.2⟩
theorem dt_pl_cg (hp : ∀ c, c < sz → pK' (ps + c) = pK (ps + c)) (hk : ∀ m, m < nc → nK' m = nK m) (hP : ∀ m, m < nc → nP' m = nP m) (key : Int32) : dt_pl pK' ps sz nK' nP' nc key = dt_pl pK ps sz nK nP nc key := by
  cases z : dt_fn nK key nc with
  | some n =>
    rw [dt_pl_n z, dt_pl_n ((dt_fn_cg hk).trans z), hP n (dt_fn_some z).1]
  | none =>
    rw [dt_pl_c z, dt_pl_c ((dt_fn_cg hk).trans z)]
    exact dt_fc_cg (fun m _ h2 => hp m (by omega))
theorem dt_at_cg (hp : ∀ c, c < sz → pK' (ps + c) = pK (ps + c)) (hk : ∀ m, m < nc → nK' m = nK m) {p : Nat} (h : p < sz + nc) : dt_at pK' ps sz nK' p = dt_at pK ps sz nK p := by
  unfold dt_at
  by_cases z : p < sz
  · rw [if_pos z, if_pos z]; exact hp p z
  · rw [if_neg z, if_neg z]; exact hk _ (by omega)
end
end
section
/-! the map that page and notes stand for -/
def dt_Rep (ps sz nc : Nat) (pK pV nK nV nP h v : Nat → Int32) : Prop :=
  (∀ p, p < sz + nc → ∃ k, k < 4096 ∧ dt_at pK ps sz nK p = nI k) ∧
  ∀ k, k < 4096 → (h k = 0 ∧ dt_pl pK ps sz nK nP nc (nI k) = none) ∨ (h k = 1 ∧ ∃ p, dt_pl pK ps sz nK nP nc (nI k) = some p ∧ dt_at pV ps sz nV p = v k)
def dt_E (h : Nat → Int32) : Nat := dt_sm (fun k => if h k = 0 then 0 else 1) 4096
theorem dt_one {c : Prop} [Decidable c] (h : (if c then 1 else 0) = 1) : c := by
  by_cases z : c
  · exact z
  · rw [if_neg z] at h; cases h
theorem dt_E_up {h : Nat → Int32} {k : Nat} (x : Int32) (hk : k < 4096) : dt_E (upd h k x) + (if h k = 0 then 0 else 1) = dt_E h + (if x = 0 then 0 else 1) := by
  have w := dt_sm_up (f := fun j => if upd h k x j = 0 then 0 else 1) (g := fun j => if h j = 0 then 0 else 1) hk (fun j _ hj => by
    show (if upd h k x j = 0 then 0 else 1) = (if h j = 0 then 0 else 1)
    rw [pk_un hj])
  have e : (if upd h k x k = 0 then 0 else 1) = if x = 0 then 0 else 1 := by rw [pk_us]
  rw [← e]
  exact w
theorem dt_E_add {h : Nat → Int32} {k : Nat} (hk : k < 4096) (z : h k = 0) : dt_E (upd h k 1) = dt_E h + 1 := by
  have w := dt_E_up (h := h) 1 hk
  rw [if_pos z, if_neg (by decide)] at w
  omega
theorem dt_E_sub {h : Nat → Int32} {k : Nat} (hk : k < 4096) (z : h k = 1) : dt_E (upd h k 0) + 1 = dt_E h := by
  have w := dt_E_up (h := h) 0 hk
  rw [if_neg (by rw [z]; decide), if_pos rfl] at w
  omega
theorem dt_E_same {h : Nat → Int32} {k : Nat} {x : Int32} (z : h k = x) : upd h k x = h := by
  funext j
  by_cases e : j = k
  · subst e; rw [pk_us, z]
  · rw [pk_un e]
section
variable {pK pV nK nV nP pK' pV' nK' nV' nP' h v : Nat → Int32} {ps sz nc : Nat}
theorem dt_Rep_01 (R : dt_Rep ps sz nc pK pV nK nV nP h v) {k : Nat} (hk : k < 4096) : h k = 0 ∨ h k = 1 := by
  rcases R.2 k hk with z | z
  · exact Or.inl z.1
  · exact Or.inr z.1
theorem dt_Rep_cg (R : dt_Rep ps sz nc pK pV nK nV nP h v) (a1 : ∀ c, c < sz → pK' (ps + c) = pK (ps + c)) (a2 : ∀ c, c < sz → pV' (ps + c) = pV (ps + c))
    (a3 : ∀ m, m < nc → nK' m = nK m) (a4 : ∀ m, m < nc → nV' m = nV m) (a5 : ∀ m, m < nc → nP' m = nP m) : dt_Rep ps sz nc pK' pV' nK' nV' nP' h v := by
  refine ⟨fun p hp => ?_, fun k hk => ?_⟩
  · rw [dt_at_cg a1 a3 hp]; exact R.1 p hp
  · rw [dt_pl_cg a1 a3 a5]
    rcases R.2 k hk with z | ⟨z, p, hp, hv⟩
    · exact Or.inl z
    · exact Or.inr ⟨z, p, hp, by rw [dt_at_cg a2 a4 (dt_pl_some hp).1]; exact hv⟩
theorem dt_Rep_note (R : dt_Rep ps sz nc pK pV nK nV nP h v) {k : Nat} (hk : k < 4096) {x y b : Int32} (hb : b = 0 ∨ (b = 1 ∧ x = y)) :
    dt_Rep ps sz (nc + 1) pK pV (upd nK nc (nI k)) (upd nV nc x) (upd nP nc b) (upd h k b) (upd v k y) := by
  refine ⟨fun p hp => ?_, fun j hj => ?_⟩
  · by_cases e : p = sz + nc
    · subst e
      exact ⟨k, hk, by rw [dt_at_hi, pk_us]⟩
    · rw [dt_at_cg (pK := pK) (nK := nK) (nc := nc) (fun _ _ => rfl) (fun m hm => pk_un (by omega)) (by omega)]
      exact R.1 p (by omega)
  · by_cases e : j = k
    · subst e
      have f : dt_fn (upd nK nc (nI j)) (nI j) (nc + 1) = some nc := by
        show (if upd nK nc (nI j) nc = nI j then some nc else dt_fn (upd nK nc (nI j)) (nI j) nc) = some nc
        rw [pk_us, if_pos rfl]
      rw [dt_pl_n f, pk_us, pk_us, pk_us]
      rcases hb with rfl | ⟨rfl, rfl⟩
      · exact Or.inl ⟨rfl, if_pos rfl⟩
      · exact Or.inr ⟨rfl, sz + nc, if_neg (by decide), by rw [dt_at_hi, pk_us]⟩
    · have f : dt_fn (upd nK nc (nI k)) (nI j) (nc + 1) = dt_fn nK (nI j) nc := by
        show (if upd nK nc (nI k) nc = nI j then some nc else dt_fn (upd nK nc (nI k)) (nI j) nc) = dt_fn nK (nI j) nc
        rw [pk_us, if_neg (by rw [nI_eq (by omega) (by omega)]; omega)]
        exact dt_fn_cg (fun m hm => pk_un (by omega))
      have g : dt_pl pK ps sz (upd nK nc (nI k)) (upd nP nc b) (nc + 1) (nI j) = dt_pl pK ps sz nK nP nc (nI j) := by
        cases z : dt_fn nK (nI j) nc with
        | some n => rw [dt_pl_n z, dt_pl_n (f.trans z), pk_un (by have := (dt_fn_some z).1; omega)]
        | none => rw [dt_pl_c z, dt_pl_c (f.trans z)]
      rw [g, pk_un e, pk_un e]
      rcases R.2 j hj with z | ⟨z, p, hp, hv⟩
      · exact Or.inl z
      · refine Or.inr ⟨z, p, hp, ?_⟩
        rw [← hv]
        exact dt_at_cg (nc := nc) (fun _ _ => rfl) (fun m hm => pk_un (by omega)) (dt_pl_some hp).1
theorem dt_Rep_new {s : Nat} (hv : ∀ k, k < 4096 → h k = 0 ∨ h k = 1) (hc : ∀ c, c < s → ∃ k, k < 4096 ∧ pK (ps + c) = nI k ∧ h k = 1 ∧ pV (ps + c) = v k)
    (ha : ∀ k, k < 4096 → h k = 1 → ∃ c, c < s ∧ pK (ps + c) = nI k) : dt_Rep ps s 0 pK pV nK nV nP h v := by
  refine ⟨fun p hp => ?_, fun k hk => ?_⟩
  · obtain ⟨k, hk, e, _⟩ := hc p (by omega)
    exact ⟨k, hk, by rw [dt_at_lo (by omega)]; exact e⟩
  · have f : dt_fn nK (nI k) 0 = none := rfl
    rw [dt_pl_c f]
    cases z : dt_fc (fun c => pK (ps + c)) (nI k) s 0 with
    | none =>
      refine Or.inl ⟨?_, rfl⟩
      rcases hv k hk with y | y
      · exact y
      · obtain ⟨c, hc', e⟩ := ha k hk y
        exact absurd e (dt_fc_none z c (by omega) (by omega))
    | some c =>
      obtain ⟨_, h2, h3⟩ := dt_fc_some z
      obtain ⟨j, hj, e, hh, hvv⟩ := hc c (by omega)
      have h4 : pK (ps + c) = nI k := h3
      have h5 : j = k := (nI_eq (by omega) (by omega)).mp (e.symm.trans h4)
      subst h5
      exact Or.inr ⟨hh, c, rfl, by rw [dt_at_lo (by omega)]; exact hvv⟩
theorem dt_Rep_out (R : dt_Rep ps sz nc pK pV nK nV nP h v) {key : Int32} (hk : ∀ k, k < 4096 → key ≠ nI k) : dt_pl pK ps sz nK nP nc key = none := by
  cases z : dt_pl pK ps sz nK nP nc key with
  | none => rfl
  | some p =>
    obtain ⟨hp, e⟩ := dt_pl_some z
    obtain ⟨k, hk', e'⟩ := R.1 p hp
    exact absurd (e.symm.trans e') (hk k hk')
def dt_lv (pK : Nat → Int32) (ps sz : Nat) (nK nP : Nat → Int32) (nc : Nat) (Q : Int32 → Bool) (p : Nat) : Nat :=
  if dt_pl pK ps sz nK nP nc (dt_at pK ps sz nK p) = some p ∧ Q (dt_at pK ps sz nK p) = true then 1 else 0
theorem dt_Rep_cnt (R : dt_Rep ps sz nc pK pV nK nV nP h v) (Q : Int32 → Bool) :
    dt_sm (dt_lv pK ps sz nK nP nc Q) (sz + nc) = dt_sm (fun k => if h k = 0 then 0 else if Q (nI k) = true then 1 else 0) 4096 := by
  have key : ∀ p k, p < sz + nc → k < 4096 → dt_lv pK ps sz nK nP nc Q p = 1 → (dt_at pK ps sz nK p).toNatClampNeg = k → dt_pl pK ps sz nK nP nc (nI k) = some p ∧ Q (nI k) = true := by
    intro p k hp hk h1 e
    have c := dt_one h1
    obtain ⟨j, hj, ej⟩ := R.1 p hp
    rw [ej, nI_clamp (by omega)] at e
    subst e
    rw [ej] at c
    exact c
  refine dt_bij (f := fun p => (dt_at pK ps sz nK p).toNatClampNeg) (fun p hp => ?_) (fun k hk => ?_)
  · obtain ⟨k, hk, e⟩ := R.1 p hp
    by_cases c : dt_pl pK ps sz nK nP nc (dt_at pK ps sz nK p) = some p ∧ Q (dt_at pK ps sz nK p) = true
    · refine Or.inr ⟨if_pos c, ?_⟩
      show (dt_at pK ps sz nK p).toNatClampNeg < 4096
      rw [e, nI_clamp (by omega)]; exact hk
    · exact Or.inl (if_neg c)
  · show ((if h k = 0 then 0 else if Q (nI k) = true then 1 else 0) = 0 ∧ _) ∨ ((if h k = 0 then 0 else if Q (nI k) = true then 1 else 0) = 1 ∧ _)
    rcases R.2 k hk with ⟨z, w⟩ | ⟨z, p, hp, _⟩
    · refine Or.inl ⟨if_pos z, fun p hp h1 e => ?_⟩
      have := (key p k hp hk h1 e).1
      rw [w] at this; cases this
    · have z0 : ¬ h k = 0 := by rw [z]; decide
      rw [if_neg z0]
      obtain ⟨hp1, hp2⟩ := dt_pl_some hp
      by_cases q : Q (nI k) = true
      · refine Or.inr ⟨if_pos q, p, hp1, if_pos ⟨by rw [hp2]; exact hp, by rw [hp2]; exact q⟩, ?_, fun r hr h1 e => ?_⟩
        · show (dt_at pK ps sz nK p).toNatClampNeg = k
          rw [hp2, nI_clamp (by omega)]
        · have := (key r k hr hk h1 e).1
          rw [hp] at this; cases this; rfl
      · exact Or.inl ⟨if_neg q, fun p hp h1 e => q (key p k hp hk h1 e).2⟩
theorem dt_Rep_E (R : dt_Rep ps sz nc pK pV nK nV nP h v) : dt_sm (dt_lv pK ps sz nK nP nc (fun _ => true)) (sz + nc) = dt_E h := by
  rw [dt_Rep_cnt R]
  exact dt_sm_cg fun k _ => by
    show (if h k = 0 then 0 else if true = true then 1 else 0) = (if h k = 0 then 0 else 1)
    rw [if_pos rfl]
/-! a page made anew: the places below p are through, s of them were copied behind st -/
def dt_New (ps sz nc : Nat) (pK pV nK nV nP h v : Nat → Int32) (st p s : Nat) (qK qV : Nat → Int32) : Prop :=
  (∀ c, c < sz → qK (ps + c) = pK (ps + c)) ∧ (∀ c, c < sz → qV (ps + c) = pV (ps + c)) ∧ s = dt_sm (dt_lv pK ps sz nK nP nc (fun _ => true)) p ∧
  (∀ c, c < s → ∃ k, k < 4096 ∧ qK (st + c) = nI k ∧ h k = 1 ∧ qV (st + c) = v k) ∧
  (∀ q, q < p → dt_pl pK ps sz nK nP nc (dt_at pK ps sz nK q) = some q → ∃ c, c < s ∧ qK (st + c) = dt_at pK ps sz nK q)
theorem dt_New_0 (st : Nat) : dt_New ps sz nc pK pV nK nV nP h v st 0 0 pK pV :=
  ⟨fun _ _ => rfl, fun _ _ => rfl, rfl, fun c hc => by omega, fun q hq => by omega⟩
theorem dt_New_skip {st p s : Nat} {qK qV : Nat → Int32} (I : dt_New ps sz nc pK pV nK nV nP h v st p s qK qV) (n : ¬ dt_pl pK ps sz nK nP nc (dt_at pK ps sz nK p) = some p) : dt_New ps sz nc pK pV nK nV nP h v st (p + 1) s qK qV := by
  obtain ⟨i1, i2, i3, i4, i5⟩ := I
  refine ⟨i1, i2, ?_, i4, fun q hq hl => ?_⟩
  · show s = dt_sm (dt_lv pK ps sz nK nP nc (fun _ => true)) p + dt_lv pK ps sz nK nP nc (fun _ => true) p
    rw [← i3, show dt_lv pK ps sz nK nP nc (fun _ => true) p = 0 from if_neg (fun z => n z.1)]
    rfl
  · by_cases e : q = p
    · subst e; exact absurd hl n
    · exact i5 q (by omega) hl
theorem dt_New_take (R : dt_Rep ps sz nc pK pV nK nV nP h v) {st p s : Nat} {qK qV : Nat → Int32} (I : dt_New ps sz nc pK pV nK nV nP h v st p s qK qV)
    (hp : p < sz + nc) (hd : ∀ c, c < sz → ps + c ≠ st + s) (y : dt_pl pK ps sz nK nP nc (dt_at pK ps sz nK p) = some p) :
    dt_New ps sz nc pK pV nK nV nP h v st (p + 1) (s + 1) (upd qK (st + s) (dt_at pK ps sz nK p)) (upd qV (st + s) (dt_at pV ps sz nV p)) := by
  obtain ⟨i1, i2, i3, i4, i5⟩ := I
  refine ⟨fun c hc => ?_, fun c hc => ?_, ?_, fun c hc => ?_, fun q hq hl => ?_⟩
  · rw [pk_un (hd c hc)]; exact i1 c hc
  · rw [pk_un (hd c hc)]; exact i2 c hc
  · show s + 1 = dt_sm (dt_lv pK ps sz nK nP nc (fun _ => true)) p + dt_lv pK ps sz nK nP nc (fun _ => true) p
    rw [← i3, show dt_lv pK ps sz nK nP nc (fun _ => true) p = 1 from if_pos ⟨y, rfl⟩]
  · by_cases e : c = s
    · subst e
      obtain ⟨k, hk, ek⟩ := R.1 p hp
      rw [ek] at y
      rw [pk_us, pk_us, ek]
      rcases R.2 k hk with ⟨_, w⟩ | ⟨z, r, hr, hv⟩
      · rw [w] at y; cases y
      · rw [hr] at y; cases y
        exact ⟨k, hk, rfl, z, hv⟩
    · rw [pk_un (by omega), pk_un (by omega)]
      exact i4 c (by omega)
  · by_cases e : q = p
    · subst e
      exact ⟨s, by omega, pk_us⟩
    · obtain ⟨c, hc, ec⟩ := i5 q (by omega) hl
      exact ⟨c, by omega, by rw [pk_un (by omega)]; exact ec⟩
theorem dt_New_end (R : dt_Rep ps sz nc pK pV nK nV nP h v) (hE : dt_E h ≤ 60) {st p s : Nat} {qK qV mK mV mP : Nat → Int32} (I : dt_New ps sz nc pK pV nK nV nP h v st p s qK qV)
    (hp : sz + nc ≤ p ∨ 60 ≤ s) : dt_Rep st s 0 qK qV mK mV mP h v := by
  obtain ⟨i1, i2, i3, i4, i5⟩ := I
  refine dt_Rep_new (fun k hk => dt_Rep_01 R hk) i4 fun k hk hh => ?_
  rcases R.2 k hk with ⟨z, _⟩ | ⟨_, r, hr, _⟩
  · rw [z] at hh; exact absurd hh (by decide)
  · obtain ⟨h1, h2⟩ := dt_pl_some hr
    have hl : dt_pl pK ps sz nK nP nc (dt_at pK ps sz nK r) = some r := by rw [h2]; exact hr
    by_cases c : r < p
    · rw [← h2]; exact i5 r c hl
    · have w := dt_sm_le (dt_lv pK ps sz nK nP nc (fun _ => true)) (a := p) (b := r) (by omega)
      have w2 := dt_sm_le (dt_lv pK ps sz nK nP nc (fun _ => true)) (a := r + 1) (b := sz + nc) (by omega)
      have w3 : dt_sm (dt_lv pK ps sz nK nP nc (fun _ => true)) (r + 1) = dt_sm (dt_lv pK ps sz nK nP nc (fun _ => true)) r + 1 := by
        show dt_sm (dt_lv pK ps sz nK nP nc (fun _ => true)) r + dt_lv pK ps sz nK nP nc (fun _ => true) r = _
        rw [show dt_lv pK ps sz nK nP nc (fun _ => true) r = 1 from if_pos ⟨hl, rfl⟩]
      have w4 := dt_Rep_E R
      omega
end
end
section
/-! X's own methods -/
theorem dt_nb {b : Int32} (hb : b = 0 ∨ b = 1) : vp_nar .boolean b = b := by
  rcases hb with rfl | rfl
  · rfl
  · rfl
theorem dt_m1 {p : Nat} (hp : p < 2 ^ 31) : ¬ (nI p = -1) := fun e => nI_pos hp (by rw [e]; decide)
theorem dt_encp {o : Option Nat} {p : Nat} (hp : p < 2 ^ 31) (ho : ∀ q, o = some q → q < 2 ^ 31) : dt_enc o = nI p ↔ o = some p := by
  cases o with
  | none => exact ⟨fun e => absurd e.symm (dt_m1 hp), fun e => by cases e⟩
  | some q => exact ⟨fun e => congrArg some ((nI_eq (ho q rfl) hp).mp e), fun e => by cases e; rfl⟩
section
variable {pK pV nK nV nP bK bV bP h v : Nat → Int32} {ps sz nc : Nat} {wt hd NC : Int32}
theorem dt_w49 {post : Int32 → Prop} {key : Int32} (hs : ps + 60 ≤ 120) (hz : sz ≤ 60) : ∀ (d c : Nat), c + d = sz → post (dt_enc (dt_fc (fun c => pK (ps + c)) key d c)) →
    wX_placeOf_49 post key (nI ps) (nI sz) NC wt hd pK pV nK nV nP bK bV bP (d + 1) (nI c) := by
  intro d
  induction d with
  | zero =>
    intro c hc hp
    exact br_t (nI_le (by omega) (by omega)) hp
  | succ d ih =>
    intro c hc hp
    have e : nI ps + nI c = nI (ps + c) := nI_add _ _
    have w : vp_in (nI ps + nI c) 120 := by rw [e]; exact vp_in_nI (by omega) (by omega)
    have e2 : (nI ps + nI c).toNatClampNeg = ps + c := by rw [e]; exact nI_clamp (by omega)
    have hp' : post (dt_enc (if pK (ps + c) = key then some c else dt_fc (fun c => pK (ps + c)) key d (c + 1))) := hp
    by_cases z : pK (ps + c) = key
    · rw [if_pos z] at hp'
      exact br_f (nI_ge (by omega) (by omega)) ⟨w, br_t (by rw [e2]; exact z) hp'⟩
    · rw [if_neg z] at hp'
      exact br_f (nI_ge (by omega) (by omega)) ⟨w, br_f (by rw [e2]; exact z) (nm_r (nI_1 c) (ih (c + 1) (by omega) hp'))⟩
theorem dt_w7 {post : Int32 → Prop} {key : Int32} (hs : ps + 60 ≤ 120) (hz : sz ≤ 60) : ∀ (m : Nat), m ≤ 16 → post (dt_enc (dt_pl pK ps sz nK nP m key)) →
    wX_placeOf_7 post key (nI ps) (nI sz) NC wt hd pK pV nK nV nP bK bV bP (m + 1) (nI m - 1) := by
  intro m
  induction m with
  | zero =>
    intro _ hp
    exact br_t (by decide) ⟨sz + 1, dt_w49 hs hz sz 0 (by omega) hp⟩
  | succ m ih =>
    intro hm hp
    rw [nI_pred]
    have w : vp_in (nI m) 16 := vp_in_nI (by omega) (by omega)
    have e : (nI m).toNatClampNeg = m := nI_clamp (by omega)
    by_cases z : nK m = key
    · have f : dt_fn nK key (m + 1) = some m := by
        show (if nK m = key then some m else dt_fn nK key m) = some m
        exact if_pos z
      rw [dt_pl_n f] at hp
      by_cases y : nP m = 0
      · rw [if_pos y] at hp
        exact br_f (nI_pos (by omega)) ⟨w, br_t (by rw [e]; exact z) ⟨w, br_t (by rw [e]; exact y) hp⟩⟩
      · rw [if_neg y] at hp
        exact br_f (nI_pos (by omega)) ⟨w, br_t (by rw [e]; exact z) ⟨w, br_f (by rw [e]; exact y) (by rw [nI_add]; exact hp)⟩⟩
    · have f : dt_pl pK ps sz nK nP (m + 1) key = dt_pl pK ps sz nK nP m key := by
        unfold dt_pl
        rw [show dt_fn nK key (m + 1) = dt_fn nK key m from if_neg z]
      rw [f] at hp
      exact br_f (nI_pos (by omega)) ⟨w, br_f (by rw [e]; exact z) (nm_r (Int32.sub_eq_add_neg _ _).symm (ih (by omega) hp))⟩
theorem dt_placeOf {post : Int32 → Prop} {key : Int32} {o : Option Nat} (hs : ps = 0 ∨ ps = 60) (hz : sz ≤ 60) (hn : nc ≤ 16) (e : dt_pl pK ps sz nK nP nc key = o) (hp : post (dt_enc o)) :
    wpX_placeOf post (nI ps, nI sz, nI nc, wt, hd, pK, pV, nK, nV, nP, bK, bV, bP) key := by
  subst e
  unfold wpX_placeOf
  exact nm_e ⟨nc + 1, dt_w7 (by omega) hz nc hn hp⟩
theorem dt_keyAt {post : Int32 → Prop} {p : Nat} {x : Int32} (hs : ps = 0 ∨ ps = 60) (hz : sz ≤ 60) (hn : nc ≤ 16) (h : p < sz + nc) (e : dt_at pK ps sz nK p = x) (hp : post x) :
    wpX_keyAt post (nI ps, nI sz, NC, wt, hd, pK, pV, nK, nV, nP, bK, bV, bP) (nI p) := by
  subst e
  unfold wpX_keyAt
  unfold dt_at at hp
  by_cases z : p < sz
  · rw [if_pos z] at hp
    refine br_f (nI_ge z (by omega)) ⟨?_, ?_⟩
    · rw [nI_add]; exact vp_in_nI (by omega) (by omega)
    · rw [nI_add, nI_clamp (by omega)]; exact hp
  · rw [if_neg z] at hp
    refine br_t (nI_le (by omega) (by omega)) ⟨?_, ?_⟩
    · rw [pk_sub (by omega)]; exact vp_in_nI (by omega) (by omega)
    · rw [pk_sub (by omega), nI_clamp (by omega)]; exact hp
theorem dt_valueAt {post : Int32 → Prop} {p : Nat} {x : Int32} (hs : ps = 0 ∨ ps = 60) (hz : sz ≤ 60) (hn : nc ≤ 16) (h : p < sz + nc) (e : dt_at pV ps sz nV p = x) (hp : post x) :
    wpX_valueAt post (nI ps, nI sz, NC, wt, hd, pK, pV, nK, nV, nP, bK, bV, bP) (nI p) := by
  subst e
  unfold wpX_valueAt
  unfold dt_at at hp
  by_cases z : p < sz
  · rw [if_pos z] at hp
    refine br_f (nI_ge z (by omega)) ⟨?_, ?_⟩
    · rw [nI_add]; exact vp_in_nI (by omega) (by omega)
    · rw [nI_add, nI_clamp (by omega)]; exact hp
  · rw [if_neg z] at hp
    refine br_t (nI_le (by omega) (by omega)) ⟨?_, ?_⟩
    · rw [pk_sub (by omega)]; exact vp_in_nI (by omega) (by omega)
    · rw [pk_sub (by omega), nI_clamp (by omega)]; exact hp
theorem dt_w23 {post : SX → Prop} (R : dt_Rep ps sz nc pK pV nK nV nP h v) (hs : ps = 0 ∨ ps = 60) (hz : sz ≤ 60) (hn : nc ≤ 16) (hE : dt_E h ≤ 60)
    (K : ∀ (s : Nat) (qK qV : Nat → Int32), s ≤ 60 → dt_Rep (60 - ps) s 0 qK qV nK nV nP h v → post (nI (60 - ps), nI s, 0, wt, hd, qK, qV, nK, nV, nP, bK, bV, bP)) :
    ∀ (d p s : Nat) (qK qV : Nat → Int32), p + d = sz + nc → s ≤ 60 → dt_New ps sz nc pK pV nK nV nP h v (60 - ps) p s qK qV →
    wX_makePageAnew_23 post (nI (60 - ps)) (nI (sz + nc)) (nI ps) (nI sz) (nI nc) wt hd (d + 1) (nI s) (nI p) qK qV nK nV nP bK bV bP := by
  intro d
  induction d with
  | zero =>
    intro p s qK qV hp hs6 I
    exact br_t (nI_le (by omega) (by omega)) (K s qK qV hs6 (dt_New_end R hE I (Or.inl (by omega))))
  | succ d ih =>
    intro p s qK qV hp hs6 I
    by_cases z : 60 ≤ s
    · exact br_f (nI_ge (by omega) (by omega)) (br_t (nI_le (a := 60) z (by omega)) (K s qK qV hs6 (dt_New_end R hE I (Or.inr z))))
    · have i1 := I.1
      have i2 := I.2.1
      have e : nI (60 - ps) + nI s = nI (60 - ps + s) := nI_add _ _
      have w : vp_in (nI (60 - ps) + nI s) 120 := by rw [e]; exact vp_in_nI (by omega) (by omega)
      have e2 : (nI (60 - ps) + nI s).toNatClampNeg = 60 - ps + s := by rw [e]; exact nI_clamp (by omega)
      have ek : dt_at qK ps sz nK p = dt_at pK ps sz nK p := dt_at_cg i1 (fun _ _ => rfl) (nc := nc) (by omega)
      have ev : dt_at qV ps sz nV p = dt_at pV ps sz nV p := dt_at_cg i2 (fun _ _ => rfl) (nc := nc) (by omega)
      have el : dt_pl qK ps sz nK nP nc (dt_at pK ps sz nK p) = dt_pl pK ps sz nK nP nc (dt_at pK ps sz nK p) := dt_pl_cg i1 (fun _ _ => rfl) (fun _ _ => rfl) _
      refine br_f (nI_ge (by omega) (by omega)) (br_f (nI_ge (b := 60) (by omega) (by decide)) (dt_keyAt hs hz hn (by omega) ek (dt_placeOf hs hz hn el ?_)))
      have hb : ∀ q, dt_pl pK ps sz nK nP nc (dt_at pK ps sz nK p) = some q → q < 2 ^ 31 := fun q hq => by
        have := (dt_pl_some hq).1
        omega
      by_cases y : dt_pl pK ps sz nK nP nc (dt_at pK ps sz nK p) = some p
      · refine br_t ((dt_encp (by omega) hb).mpr y) ⟨w, nm_r (e' := upd qK (60 - ps + s) (dt_at pK ps sz nK p)) (by rw [e2]) (dt_valueAt hs hz hn (by omega) ev ⟨w, nm_r (e' := upd qV (60 - ps + s) (dt_at pV ps sz nV p)) (by rw [e2]) (nm_r (nI_1 s) (nm_r (nI_1 p) ?_))⟩)⟩
        exact ih (p + 1) (s + 1) _ _ (by omega) (by omega) (dt_New_take R I (by omega) (fun c hc => by omega) y)
      · refine br_f (fun z => y ((dt_encp (by omega) hb).mp z)) (nm_r (nI_1 p) ?_)
        exact ih (p + 1) s _ _ (by omega) hs6 (dt_New_skip I y)
theorem dt_anew {post : SX → Prop} (R : dt_Rep ps sz nc pK pV nK nV nP h v) (hs : ps = 0 ∨ ps = 60) (hz : sz ≤ 60) (hn : nc ≤ 16) (hE : dt_E h ≤ 60)
    (K : ∀ (s : Nat) (qK qV : Nat → Int32), s ≤ 60 → dt_Rep (60 - ps) s 0 qK qV nK nV nP h v → post (nI (60 - ps), nI s, 0, wt, hd, qK, qV, nK, nV, nP, bK, bV, bP)) :
    wpX_makePageAnew post (nI ps, nI sz, nI nc, wt, hd, pK, pV, nK, nV, nP, bK, bV, bP) := by
  unfold wpX_makePageAnew
  exact nm_r (pk_sub (a := 60) (b := ps) (by omega)) (nm_r (nI_add sz nc) ⟨sz + nc + 1, dt_w23 R hs hz hn hE K (sz + nc) 0 0 pK pV (by omega) (by omega) (dt_New_0 _)⟩)
theorem dt_hang13 {post : SX → Prop} {k : Nat} {b x : Int32} (hb : b = 0 ∨ b = 1) (hn : nc < 16)
    (K : post (nI ps, nI sz, nI (nc + 1), wt, hd, pK, pV, upd nK nc (nI k), upd nV nc x, upd nP nc b, bK, bV, bP)) :
    wX_hangNote_13 post b (nI k) x (nI ps) (nI sz) (nI nc) wt hd pK pV nK nV nP bK bV bP := by
  have e : (nI nc).toNatClampNeg = nc := nI_clamp (by omega)
  have w : vp_in (nI nc) 16 := vp_in_nI hn (by omega)
  unfold wX_hangNote_13
  exact ⟨w, nm_r (e' := upd nP nc b) (by rw [e, dt_nb hb]) ⟨w, nm_r (e' := upd nK nc (nI k)) (by rw [e]) ⟨w, nm_r (e' := upd nV nc x) (by rw [e]) (nm_r (nI_1 nc) K)⟩⟩⟩
theorem dt_hangS {post : SX → Prop} {k : Nat} {b x : Int32} (hb : b = 0 ∨ b = 1) (hn : nc < 16)
    (K : post (nI ps, nI sz, nI (nc + 1), wt, hd, pK, pV, upd nK nc (nI k), upd nV nc x, upd nP nc b, bK, bV, bP)) :
    wpX_hangNote post (nI ps, nI sz, nI nc, wt, hd, pK, pV, nK, nV, nP, bK, bV, bP) b (nI k) x := by
  unfold wpX_hangNote
  exact br_t (nI_lt (b := 16) hn (by decide)) (dt_hang13 hb hn K)
end
end
section
/-! X's changes, over the map -/
def dt_XS (u : SX) (h v : Nat → Int32) (wt hd : Int32) (bK bV bP : Nat → Int32) : Prop :=
  ∃ (ps sz nc : Nat) (pK pV nK nV nP : Nat → Int32), (ps = 0 ∨ ps = 60) ∧ sz ≤ 60 ∧ nc ≤ 16 ∧ dt_Rep ps sz nc pK pV nK nV nP h v ∧ u = (nI ps, nI sz, nI nc, wt, hd, pK, pV, nK, nV, nP, bK, bV, bP)
theorem dt_rng (x : Int32) : ((x < 0 ∨ ¬ x ≤ 4095) ∧ ∀ k, k < 4096 → x ≠ nI k) ∨ ∃ k, k < 4096 ∧ x = nI k := by
  by_cases h0 : x < 0
  · refine Or.inl ⟨Or.inl h0, fun k hk e => ?_⟩
    rw [e] at h0
    exact nI_pos (by omega) h0
  · obtain ⟨j, hj, rfl⟩ := nI_of h0
    by_cases h1 : j < 4096
    · exact Or.inr ⟨j, h1, rfl⟩
    · refine Or.inl ⟨Or.inr (nI_ge (a := 4095) (b := j) (by omega) hj), fun k hk e => ?_⟩
      rw [nI_eq hj (by omega)] at e
      omega
section
variable {u : SX} {h v bK bV bP : Nat → Int32} {wt hd : Int32}
theorem dt_oor_t {post : Int32 → Prop} {x : Int32} (o : x < 0 ∨ ¬ x ≤ 4095) (K : post 1) : wpX_isOutOfRange post u x := by
  obtain ⟨a1, a2, a3, a4, a5, a6, a7, a8, a9, a10, a11, a12, a13⟩ := u
  unfold wpX_isOutOfRange
  by_cases h0 : x < 0
  · exact br_t h0 K
  · rcases o with o | o
    · exact absurd o h0
    · exact br_f h0 (br_f o K)
theorem dt_oor_f {post : Int32 → Prop} {k : Nat} (hk : k < 4096) (K : post 0) : wpX_isOutOfRange post u (nI k) := by
  obtain ⟨a1, a2, a3, a4, a5, a6, a7, a8, a9, a10, a11, a12, a13⟩ := u
  unfold wpX_isOutOfRange
  exact br_f (nI_pos (by omega)) (br_t (nI_le (b := 4095) (by omega) (by decide)) K)
theorem dt_bad_t {post : Int32 → Prop} {x : Int32} (o : x < 0 ∨ ¬ x ≤ 4095) (K : post 1) : wpY_bad post x := by
  unfold wpY_bad
  by_cases h0 : x < 0
  · exact br_t h0 K
  · rcases o with o | o
    · exact absurd o h0
    · exact br_f h0 (br_f o K)
theorem dt_bad_f {post : Int32 → Prop} {k : Nat} (hk : k < 4096) (K : post 0) : wpY_bad post (nI k) := by
  unfold wpY_bad
  exact br_f (nI_pos (by omega)) (br_t (nI_le (b := 4095) (by omega) (by decide)) K)
theorem dt_hang {post : SX → Prop} {k : Nat} {b x y : Int32} (X : dt_XS u h v wt hd bK bV bP) (hE : dt_E h ≤ 60) (hk : k < 4096) (hb : b = 0 ∨ (b = 1 ∧ x = y))
    (K : ∀ u', dt_XS u' (upd h k b) (upd v k y) wt hd bK bV bP → post u') : wpX_hangNote post u b (nI k) x := by
  obtain ⟨ps, sz, nc, pK, pV, nK, nV, nP, hs, hz, hn, R, rfl⟩ := X
  have hb' : b = 0 ∨ b = 1 := by
    rcases hb with z | z
    · exact Or.inl z
    · exact Or.inr z.1
  by_cases c : nc < 16
  · exact dt_hangS hb' c (K _ ⟨ps, sz, nc + 1, pK, pV, _, _, _, hs, hz, by omega, dt_Rep_note R hk hb, rfl⟩)
  · unfold wpX_hangNote
    refine br_f (nI_nlt (b := 16) (by omega) (by omega)) (dt_anew R hs hz hn hE fun s qK qV hs6 R' => ?_)
    exact dt_hang13 (nc := 0) hb' (by omega) (K _ ⟨60 - ps, s, 0 + 1, qK, qV, _, _, _, by omega, hs6, by omega, dt_Rep_note R' hk hb, rfl⟩)
theorem dt_write {post : Int32 → SX → Prop} {k : Nat} {x : Int32} (X : dt_XS u h v wt (nI (dt_E h)) bK bV bP) (hE : dt_E h ≤ 60) (hk : k < 4096)
    (K : ∀ u', dt_XS u' (upd h k 1) (upd v k x) wt (nI (dt_E (upd h k 1))) bK bV bP → post (if h k = 0 then 1 else 0) u') : wpX_write post u (nI k) x := by
  have X0 := X
  obtain ⟨ps, sz, nc, pK, pV, nK, nV, nP, hs, hz, hn, R, rfl⟩ := X
  unfold wpX_write
  rcases R.2 k hk with ⟨z, hp⟩ | ⟨z, p, hp, _⟩
  · refine dt_placeOf hs hz hn hp (br_t rfl ?_)
    rw [if_pos z, dt_E_add hk z] at K
    unfold wX_write_14
    refine dt_hang X0 hE hk (Or.inr ⟨rfl, rfl⟩) fun u' X' => ?_
    obtain ⟨ps', sz', nc', pK', pV', nK', nV', nP', hs', hz', hn', R', rfl⟩ := X'
    exact nm_r (nI_1 _) (K _ ⟨ps', sz', nc', pK', pV', nK', nV', nP', hs', hz', hn', R', rfl⟩)
  · have hp1 := (dt_pl_some hp).1
    refine dt_placeOf hs hz hn hp (br_f (dt_m1 (by omega)) ?_)
    rw [if_neg (by rw [z]; decide), show dt_E (upd h k 1) = dt_E h by rw [dt_E_same z]] at K
    unfold wX_write_14
    refine dt_hang X0 hE hk (Or.inr ⟨rfl, rfl⟩) fun u' X' => ?_
    obtain ⟨ps', sz', nc', pK', pV', nK', nV', nP', hs', hz', hn', R', rfl⟩ := X'
    exact nm_r (Int32.add_zero _) (K _ ⟨ps', sz', nc', pK', pV', nK', nV', nP', hs', hz', hn', R', rfl⟩)
theorem dt_erase {post : Int32 → SX → Prop} {k : Nat} (X : dt_XS u h v wt (nI (dt_E h)) bK bV bP) (hE : dt_E h ≤ 60) (hk : k < 4096)
    (K0 : h k = 0 → post 0 u) (K1 : h k = 1 → ∀ u', dt_XS u' (upd h k 0) (upd v k 0) wt (nI (dt_E (upd h k 0))) bK bV bP → post 1 u') : wpX_erase post u (nI k) := by
  have X0 := X
  obtain ⟨ps, sz, nc, pK, pV, nK, nV, nP, hs, hz, hn, R, rfl⟩ := X
  unfold wpX_erase
  rcases R.2 k hk with ⟨z, hp⟩ | ⟨z, p, hp, _⟩
  · exact dt_placeOf hs hz hn hp (br_t rfl (K0 z))
  · have hp1 := (dt_pl_some hp).1
    have K := K1 z
    refine dt_placeOf hs hz hn hp (br_f (dt_m1 (by omega)) ?_)
    refine dt_hang X0 hE hk (y := 0) (Or.inl rfl) fun u' X' => ?_
    obtain ⟨ps', sz', nc', pK', pV', nK', nV', nP', hs', hz', hn', R', rfl⟩ := X'
    refine nm_r (e' := nI (dt_E (upd h k 0))) ?_ (K _ ⟨ps', sz', nc', pK', pV', nK', nV', nP', hs', hz', hn', R', rfl⟩)
    rw [← dt_E_sub hk z, nI_pred]
theorem dt_erase_out {post : Int32 → SX → Prop} {x : Int32} (X : dt_XS u h v wt hd bK bV bP) (hk : ∀ k, k < 4096 → x ≠ nI k) (K0 : post 0 u) : wpX_erase post u x := by
  obtain ⟨ps, sz, nc, pK, pV, nK, nV, nP, hs, hz, hn, R, rfl⟩ := X
  unfold wpX_erase
  exact dt_placeOf hs hz hn (dt_Rep_out R hk) (br_t rfl K0)
theorem dt_Xput {post : Int32 → SX → Prop} {k : Nat} {x : Int32} (X : dt_XS u h v wt (nI (dt_E h)) bK bV bP) (hE : dt_E h ≤ 60) (hk : k < 4096)
    (K0 : h k = 0 → dt_E h = 60 → post (-1) u)
    (K1 : h k = 1 ∨ dt_E h < 60 → ∀ u', dt_XS u' (upd h k 1) (upd v k x) wt (nI (dt_E (upd h k 1))) bK bV bP → post (if h k = 0 then 1 else 0) u') : wpX_put post u (nI k) x := by
  have X0 := X
  obtain ⟨ps, sz, nc, pK, pV, nK, nV, nP, hs, hz, hn, R, rfl⟩ := X
  have W : h k = 1 ∨ dt_E h < 60 → wX_put_30 post (nI k) x (nI ps) (nI sz) (nI nc) wt (nI (dt_E h)) pK pV nK nV nP bK bV bP := by
    intro c
    unfold wX_put_30
    refine dt_write X0 hE hk fun u' X' => ?_
    have K := K1 c u' X'
    obtain ⟨ps', sz', nc', pK', pV', nK', nV', nP', hs', hz', hn', R', rfl⟩ := X'
    exact K
  unfold wpX_put
  refine dt_oor_f hk (br_t rfl ?_)
  by_cases c : dt_E h < 60
  · exact br_t (nI_lt (b := 60) c (by decide)) (W (Or.inr c))
  · refine br_f (nI_nlt (b := 60) (by omega) (by omega)) ?_
    rcases R.2 k hk with ⟨z, hp⟩ | ⟨z, p, hp, _⟩
    · exact dt_placeOf hs hz hn hp (br_t rfl (K0 z (by omega)))
    · have hp1 := (dt_pl_some hp).1
      exact dt_placeOf hs hz hn hp (br_f (dt_m1 (by omega)) (W (Or.inl z)))
theorem dt_Xremove {post : Int32 → SX → Prop} {x : Int32} (K : wpX_erase post u x) : wpX_remove post u x := by
  obtain ⟨a1, a2, a3, a4, a5, a6, a7, a8, a9, a10, a11, a12, a13⟩ := u
  unfold wpX_remove
  exact K
theorem dt_Xget {post : Int32 → Prop} {k : Nat} (X : dt_XS u h v wt hd bK bV bP) (hk : k < 4096) (h0 : h k = 0 → v k = 0) (K : post (v k)) : wpX_get post u (nI k) := by
  obtain ⟨ps, sz, nc, pK, pV, nK, nV, nP, hs, hz, hn, R, rfl⟩ := X
  unfold wpX_get
  rcases R.2 k hk with ⟨z, hp⟩ | ⟨z, p, hp, hv⟩
  · rw [h0 z] at K
    exact dt_placeOf hs hz hn hp (br_t rfl K)
  · have hp1 := (dt_pl_some hp).1
    exact dt_placeOf hs hz hn hp (br_f (dt_m1 (by omega)) (dt_valueAt hs hz hn hp1 hv K))
theorem dt_Xget_out {post : Int32 → Prop} {x : Int32} (X : dt_XS u h v wt hd bK bV bP) (hk : ∀ k, k < 4096 → x ≠ nI k) (K : post 0) : wpX_get post u x := by
  obtain ⟨ps, sz, nc, pK, pV, nK, nV, nP, hs, hz, hn, R, rfl⟩ := X
  unfold wpX_get
  exact dt_placeOf hs hz hn (dt_Rep_out R hk) (br_t rfl K)
theorem dt_Xhas {post : Int32 → Prop} {k : Nat} (X : dt_XS u h v wt hd bK bV bP) (hk : k < 4096) (K0 : h k = 0 → post 0) (K1 : h k = 1 → post 1) : wpX_has post u (nI k) := by
  obtain ⟨ps, sz, nc, pK, pV, nK, nV, nP, hs, hz, hn, R, rfl⟩ := X
  unfold wpX_has
  rcases R.2 k hk with ⟨z, hp⟩ | ⟨z, p, hp, hv⟩
  · exact dt_placeOf hs hz hn hp (br_t rfl (K0 z))
  · have hp1 := (dt_pl_some hp).1
    exact dt_placeOf hs hz hn hp (br_f (dt_m1 (by omega)) (K1 z))
theorem dt_Xhas_out {post : Int32 → Prop} {x : Int32} (X : dt_XS u h v wt hd bK bV bP) (hk : ∀ k, k < 4096 → x ≠ nI k) (K : post 0) : wpX_has post u x := by
  obtain ⟨ps, sz, nc, pK, pV, nK, nV, nP, hs, hz, hn, R, rfl⟩ := X
  unfold wpX_has
  exact dt_placeOf hs hz hn (dt_Rep_out R hk) (br_t rfl K)
theorem dt_Xswap_out {post : Int32 → SX → Prop} {x y z : Int32} (X : dt_XS u h v wt hd bK bV bP) (hk : ∀ k, k < 4096 → x ≠ nI k) (K : post 0 u) : wpX_swap post u x y z := by
  obtain ⟨ps, sz, nc, pK, pV, nK, nV, nP, hs, hz, hn, R, rfl⟩ := X
  unfold wpX_swap
  exact dt_placeOf hs hz hn (dt_Rep_out R hk) (br_t rfl K)
theorem dt_Xswap {post : Int32 → SX → Prop} {k : Nat} {y x : Int32} (X : dt_XS u h v wt (nI (dt_E h)) bK bV bP) (hE : dt_E h ≤ 60) (hk : k < 4096)
    (K0 : ¬ (h k = 1 ∧ v k = y) → post 0 u) (K1 : h k = 1 → v k = y → ∀ u', dt_XS u' h (upd v k x) wt (nI (dt_E h)) bK bV bP → post 1 u') : wpX_swap post u (nI k) y x := by
  have X0 := X
  obtain ⟨ps, sz, nc, pK, pV, nK, nV, nP, hs, hz, hn, R, rfl⟩ := X
  unfold wpX_swap
  rcases R.2 k hk with ⟨z, hp⟩ | ⟨z, p, hp, hv⟩
  · exact dt_placeOf hs hz hn hp (br_t rfl (K0 (fun c => by rw [z] at c; exact absurd c.1 (by decide))))
  · have hp1 := (dt_pl_some hp).1
    refine dt_placeOf hs hz hn hp (br_f (dt_m1 (by omega)) (dt_valueAt hs hz hn hp1 hv ?_))
    by_cases c : v k = y
    · refine br_t c (dt_write X0 hE hk fun u' X' => ?_)
      rw [dt_E_same z] at X'
      have K := K1 z c u' X'
      obtain ⟨ps', sz', nc', pK', pV', nK', nV', nP', hs', hz', hn', R', rfl⟩ := X'
      exact K
    · exact br_f c (K0 (fun w => c w.2))
theorem dt_Xtidy {post : SX → Prop} (X : dt_XS u h v wt hd bK bV bP) (hE : dt_E h ≤ 60) (K : ∀ u', dt_XS u' h v wt hd bK bV bP → post u') : wpX_tidy post u := by
  obtain ⟨ps, sz, nc, pK, pV, nK, nV, nP, hs, hz, hn, R, rfl⟩ := X
  unfold wpX_tidy
  exact dt_anew R hs hz hn hE fun s qK qV hs6 R' => K _ ⟨60 - ps, s, 0, qK, qV, nK, nV, nP, by omega, hs6, by omega, R', rfl⟩
end
end
section
/-! Y's changes -/
section
variable {h v P Kk N hB vB : Nat → Int32} {wt : Int32}
theorem dt_Ywrite {post : SY → Prop} {k : Nat} {b x y : Int32} (hk : k < 4096) (h01 : h k = 0 ∨ h k = 1) (hb : b = 0 ∨ b = 1) (hy : y = if b = 0 then 0 else x)
    (K : post (nI (dt_E (upd h k b)), wt, upd h k b, upd v k y, P, Kk, N, hB, vB)) : wpY_write post (nI (dt_E h), wt, h, v, P, Kk, N, hB, vB) (nI k) b x := by
  have e : (nI k).toNatClampNeg = k := nI_clamp (by omega)
  have w : vp_in (nI k) 4096 := vp_in_nI hk (by omega)
  subst hy
  have W : ∀ E : Int32, E = nI (dt_E (upd h k b)) → wY_write_28 post (nI k) b x E wt h v P Kk N hB vB := by
    intro E eE
    subst eE
    unfold wY_write_28
    refine ⟨w, nm_r (e' := upd h k b) (by rw [e, dt_nb hb]) ?_⟩
    by_cases z : b = 0
    · rw [if_pos z] at K
      exact br_t z ⟨w, nm_r (e' := upd v k 0) (by rw [e]) K⟩
    · rw [if_neg z] at K
      exact br_f z ⟨w, nm_r (e' := upd v k x) (by rw [e]) K⟩
  unfold wpY_write
  refine ⟨w, ?_⟩
  by_cases z : h k = b
  · exact br_t (by rw [e]; exact z) (W _ (by rw [dt_E_same z]))
  · refine br_f (by rw [e]; exact z) ?_
    rcases hb with rfl | rfl
    · have h1 : h k = 1 := h01.resolve_left z
      refine br_t rfl ?_
      unfold wY_write_24
      exact nm_r (e' := nI (dt_E (upd h k 0))) (by rw [← dt_E_sub hk h1, pk_m1]) (W _ rfl)
    · have h1 : h k = 0 := h01.resolve_right z
      refine br_f (by decide) ?_
      unfold wY_write_24
      exact nm_r (e' := nI (dt_E (upd h k 1))) (by rw [dt_E_add hk h1, nI_1]) (W _ rfl)
theorem dt_Yput {post : Int32 → SY → Prop} {k : Nat} {x : Int32} (hE : dt_E h ≤ 60) (hk : k < 4096) (h01 : h k = 0 ∨ h k = 1)
    (K0 : h k = 0 → dt_E h = 60 → post (-1) (nI (dt_E h), wt, h, v, P, Kk, N, hB, vB))
    (K1 : h k = 1 ∨ dt_E h < 60 → post (if h k = 0 then 1 else 0) (nI (dt_E (upd h k 1)), wt, upd h k 1, upd v k x, P, Kk, N, hB, vB)) :
    wpY_put post (nI (dt_E h), wt, h, v, P, Kk, N, hB, vB) (nI k) x := by
  have e : (nI k).toNatClampNeg = k := nI_clamp (by omega)
  have w : vp_in (nI k) 4096 := vp_in_nI hk (by omega)
  have W : h k = 1 ∨ dt_E h < 60 → wY_put_27 post (nI k) x (nI (dt_E h)) wt h v P Kk N hB vB := by
    intro c
    have K := K1 c
    unfold wY_put_27
    refine ⟨w, nm_r (e' := h k) (by rw [e]) (dt_Ywrite hk h01 (Or.inr rfl) (y := x) (if_neg (by decide)).symm ?_)⟩
    by_cases z : h k = 0
    · rw [if_pos z] at K; exact br_t z K
    · rw [if_neg z] at K; exact br_f z K
  unfold wpY_put
  refine dt_bad_f hk (br_t rfl ⟨w, ?_⟩)
  by_cases z : h k = 0
  · refine br_t (by rw [e]; exact z) ?_
    by_cases c : dt_E h = 60
    · exact br_t (congrArg nI c) (K0 z c)
    · exact br_f (fun q => c ((nI_eq (b := 60) (by omega) (by decide)).mp q)) (W (Or.inr (by omega)))
  · exact br_f (by rw [e]; exact z) (W (Or.inl (h01.resolve_left z)))
theorem dt_Yremove {post : Int32 → SY → Prop} {k : Nat} (hk : k < 4096) (h01 : h k = 0 ∨ h k = 1)
    (K0 : h k = 0 → post 0 (nI (dt_E h), wt, h, v, P, Kk, N, hB, vB))
    (K1 : h k = 1 → post 1 (nI (dt_E (upd h k 0)), wt, upd h k 0, upd v k 0, P, Kk, N, hB, vB)) :
    wpY_remove post (nI (dt_E h), wt, h, v, P, Kk, N, hB, vB) (nI k) := by
  have e : (nI k).toNatClampNeg = k := nI_clamp (by omega)
  have w : vp_in (nI k) 4096 := vp_in_nI hk (by omega)
  unfold wpY_remove
  refine dt_bad_f hk (br_t rfl ⟨w, ?_⟩)
  by_cases z : h k = 0
  · exact br_t (by rw [e]; exact z) (K0 z)
  · exact br_f (by rw [e]; exact z) (dt_Ywrite hk h01 (Or.inl rfl) (y := 0) (if_pos rfl).symm (K1 (h01.resolve_left z)))
end
/-! next, previous, count: each side against one answer -/
def dt_Nx (h : Nat → Int32) (f r : Int32) : Prop :=
  (r = -1 ∧ ∀ k, k < 4096 → h k = 1 → nI k < f) ∨ ∃ j, j < 4096 ∧ r = nI j ∧ h j = 1 ∧ ¬ nI j < f ∧ ∀ k, k < 4096 → h k = 1 → ¬ nI k < f → j ≤ k
def dt_Pv (h : Nat → Int32) (f r : Int32) : Prop :=
  (r = -1 ∧ ∀ k, k < 4096 → h k = 1 → f < nI k) ∨ ∃ j, j < 4096 ∧ r = nI j ∧ h j = 1 ∧ ¬ f < nI j ∧ ∀ k, k < 4096 → h k = 1 → ¬ f < nI k → k ≤ j
theorem dt_Nx_u {h : Nat → Int32} {f r r' : Int32} (a : dt_Nx h f r) (b : dt_Nx h f r') : r' = r := by
  rcases a with ⟨e, a⟩ | ⟨j, hj, e, h1, h2, a⟩
  · rcases b with ⟨e', b⟩ | ⟨i, hi, e', g1, g2, b⟩
    · rw [e, e']
    · exact absurd (a i hi g1) g2
  · rcases b with ⟨e', b⟩ | ⟨i, hi, e', g1, g2, b⟩
    · exact absurd (b j hj h1) h2
    · have := a i hi g1 g2
      have := b j hj h1 h2
      rw [e, e', show i = j by omega]
theorem dt_Pv_u {h : Nat → Int32} {f r r' : Int32} (a : dt_Pv h f r) (b : dt_Pv h f r') : r' = r := by
  rcases a with ⟨e, a⟩ | ⟨j, hj, e, h1, h2, a⟩
  · rcases b with ⟨e', b⟩ | ⟨i, hi, e', g1, g2, b⟩
    · rw [e, e']
    · exact absurd (a i hi g1) g2
  · rcases b with ⟨e', b⟩ | ⟨i, hi, e', g1, g2, b⟩
    · exact absurd (b j hj h1) h2
    · have := a i hi g1 g2
      have := b j hj h1 h2
      rw [e, e', show i = j by omega]
def dt_Ls (g h : Nat → Int32) (f : Int32) (p : Nat) (l : Int32) : Prop :=
  (l = -1 ∧ ∀ q, q < p → ∀ k, k < 4096 → g q = nI k → h k = 1 → nI k < f) ∨ ∃ j, j < 4096 ∧ l = nI j ∧ h j = 1 ∧ ¬ nI j < f ∧ ∀ q, q < p → ∀ k, k < 4096 → g q = nI k → h k = 1 → ¬ nI k < f → j ≤ k
def dt_Gs (g h : Nat → Int32) (f : Int32) (p : Nat) (l : Int32) : Prop :=
  (l = -1 ∧ ∀ q, q < p → ∀ k, k < 4096 → g q = nI k → h k = 1 → f < nI k) ∨ ∃ j, j < 4096 ∧ l = nI j ∧ h j = 1 ∧ ¬ f < nI j ∧ ∀ q, q < p → ∀ k, k < 4096 → g q = nI k → h k = 1 → ¬ f < nI k → k ≤ j
section
variable {g h : Nat → Int32} {f l : Int32} {p k : Nat}
theorem dt_Ls_skip (I : dt_Ls g h f p l) (ek : g p = nI k) (hk : k < 4096) (s : h k = 1 → nI k < f ∨ ∃ j, j < 4096 ∧ l = nI j ∧ j ≤ k) : dt_Ls g h f (p + 1) l := by
  have same : ∀ i, i < 4096 → g p = nI i → i = k := fun i hi e => (nI_eq (by omega) (by omega)).mp (e.symm.trans ek)
  rcases I with ⟨rfl, a⟩ | ⟨j, hj, rfl, h1, h2, a⟩
  · refine Or.inl ⟨rfl, fun q hq i hi e hh => ?_⟩
    by_cases c : q = p
    · subst c
      obtain rfl := same i hi e
      rcases s hh with z | ⟨j, hj, e2, _⟩
      · exact z
      · exact absurd e2.symm (dt_m1 (by omega))
    · exact a q (by omega) i hi e hh
  · refine Or.inr ⟨j, hj, rfl, h1, h2, fun q hq i hi e hh nf => ?_⟩
    by_cases c : q = p
    · subst c
      obtain rfl := same i hi e
      rcases s hh with z | ⟨j', hj', e2, le⟩
      · exact absurd z nf
      · have := (nI_eq (by omega) (by omega)).mp e2
        omega
    · exact a q (by omega) i hi e hh nf
theorem dt_Ls_take (I : dt_Ls g h f p l) (ek : g p = nI k) (hk : k < 4096) (h1 : h k = 1) (nf : ¬ nI k < f) (s : ∀ j, j < 4096 → l = nI j → k ≤ j) : dt_Ls g h f (p + 1) (nI k) := by
  refine Or.inr ⟨k, hk, rfl, h1, nf, fun q hq i hi e hh ni => ?_⟩
  by_cases c : q = p
  · subst c
    have : i = k := (nI_eq (by omega) (by omega)).mp (e.symm.trans ek)
    omega
  · rcases I with ⟨_, a⟩ | ⟨j, hj, el, _, _, a⟩
    · exact absurd (a q (by omega) i hi e hh) ni
    · have := a q (by omega) i hi e hh ni
      have := s j hj el
      omega
theorem dt_Gs_skip (I : dt_Gs g h f p l) (ek : g p = nI k) (hk : k < 4096) (s : h k = 1 → f < nI k ∨ ∃ j, j < 4096 ∧ l = nI j ∧ k ≤ j) : dt_Gs g h f (p + 1) l := by
  have same : ∀ i, i < 4096 → g p = nI i → i = k := fun i hi e => (nI_eq (by omega) (by omega)).mp (e.symm.trans ek)
  rcases I with ⟨rfl, a⟩ | ⟨j, hj, rfl, h1, h2, a⟩
  · refine Or.inl ⟨rfl, fun q hq i hi e hh => ?_⟩
    by_cases c : q = p
    · subst c
      obtain rfl := same i hi e
      rcases s hh with z | ⟨j, hj, e2, _⟩
      · exact z
      · exact absurd e2.symm (dt_m1 (by omega))
    · exact a q (by omega) i hi e hh
  · refine Or.inr ⟨j, hj, rfl, h1, h2, fun q hq i hi e hh nf => ?_⟩
    by_cases c : q = p
    · subst c
      obtain rfl := same i hi e
      rcases s hh with z | ⟨j', hj', e2, le⟩
      · exact absurd z nf
      · have := (nI_eq (by omega) (by omega)).mp e2
        omega
    · exact a q (by omega) i hi e hh nf
theorem dt_Gs_take (I : dt_Gs g h f p l) (ek : g p = nI k) (hk : k < 4096) (h1 : h k = 1) (nf : ¬ f < nI k) (s : ∀ j, j < 4096 → l = nI j → j ≤ k) : dt_Gs g h f (p + 1) (nI k) := by
  refine Or.inr ⟨k, hk, rfl, h1, nf, fun q hq i hi e hh ni => ?_⟩
  by_cases c : q = p
  · subst c
    have : i = k := (nI_eq (by omega) (by omega)).mp (e.symm.trans ek)
    omega
  · rcases I with ⟨_, a⟩ | ⟨j, hj, el, _, _, a⟩
    · exact absurd (a q (by omega) i hi e hh) ni
    · have := a q (by omega) i hi e hh ni
      have := s j hj el
      omega
end
section
variable {h v P Kk N hB vB : Nat → Int32} {E wt : Int32}
theorem dt_y2 {post : Int32 → Prop} {f : Int32} (h01 : ∀ k, k < 4096 → h k = 0 ∨ h k = 1) (K : ∀ r, dt_Nx h f r → post r) : ∀ d c, c + d = 4096 → (∀ k, k < c → h k = 1 → nI k < f) →
    wY_next_2 post f E wt h v P Kk N hB vB (d + 1) (nI c) := by
  intro d
  induction d with
  | zero =>
    intro c hc a
    exact br_t (nI_le (a := 4096) (by omega) (by omega)) (K _ (Or.inl ⟨rfl, fun k hk => a k (by omega)⟩))
  | succ d ih =>
    intro c hc a
    have e : (nI c).toNatClampNeg = c := nI_clamp (by omega)
    refine br_f (nI_ge (b := 4096) (by omega) (by decide)) ?_
    by_cases z : nI c < f
    · refine br_t z (nm_r (nI_1 c) (ih (c + 1) (by omega) fun k hk hh => ?_))
      by_cases y : k = c
      · subst y; exact z
      · exact a k (by omega) hh
    · refine br_f z ⟨vp_in_nI (by omega) (by omega), ?_⟩
      by_cases y : h c = 0
      · refine br_t (by rw [e]; exact y) (nm_r (nI_1 c) (ih (c + 1) (by omega) fun k hk hh => ?_))
        by_cases x : k = c
        · subst x; rw [y] at hh; exact absurd hh (by decide)
        · exact a k (by omega) hh
      · refine br_f (by rw [e]; exact y) (K _ (Or.inr ⟨c, by omega, rfl, (h01 c (by omega)).resolve_left y, z, fun k hk hh nf => ?_⟩))
        by_cases x : k < c
        · exact absurd (a k x hh) nf
        · omega
theorem dt_Ynext {post : Int32 → Prop} {f : Int32} (h01 : ∀ k, k < 4096 → h k = 0 ∨ h k = 1) (K : ∀ r, dt_Nx h f r → post r) : wpY_next post (E, wt, h, v, P, Kk, N, hB, vB) f := by
  unfold wpY_next
  exact ⟨4096 + 1, dt_y2 h01 K 4096 0 (by omega) (fun k hk => by omega)⟩
theorem dt_y4 {post : Int32 → Prop} {f : Int32} (h01 : ∀ k, k < 4096 → h k = 0 ∨ h k = 1) (K : ∀ r, dt_Pv h f r → post r) : ∀ c, c ≤ 4096 → (∀ k, c ≤ k → k < 4096 → h k = 1 → f < nI k) →
    wY_previous_4 post f E wt h v P Kk N hB vB (c + 1) (nI c - 1) := by
  intro c
  induction c with
  | zero =>
    intro _ a
    exact br_t (by decide) (K _ (Or.inl ⟨rfl, fun k hk => a k (by omega) hk⟩))
  | succ c ih =>
    intro hc a
    rw [nI_pred]
    have e : (nI c).toNatClampNeg = c := nI_clamp (by omega)
    refine br_f (nI_pos (by omega)) ?_
    by_cases z : f < nI c
    · refine br_t z (nm_r (Int32.sub_eq_add_neg _ _).symm (ih (by omega) fun k hk hk2 hh => ?_))
      by_cases y : k = c
      · subst y; exact z
      · exact a k (by omega) hk2 hh
    · refine br_f z ⟨vp_in_nI (by omega) (by omega), ?_⟩
      by_cases y : h c = 0
      · refine br_t (by rw [e]; exact y) (nm_r (Int32.sub_eq_add_neg _ _).symm (ih (by omega) fun k hk hk2 hh => ?_))
        by_cases x : k = c
        · subst x; rw [y] at hh; exact absurd hh (by decide)
        · exact a k (by omega) hk2 hh
      · refine br_f (by rw [e]; exact y) (K _ (Or.inr ⟨c, by omega, rfl, (h01 c (by omega)).resolve_left y, z, fun k hk hh nf => ?_⟩))
        by_cases x : c < k
        · exact absurd (a k x hk hh) nf
        · omega
theorem dt_Yprev {post : Int32 → Prop} {f : Int32} (h01 : ∀ k, k < 4096 → h k = 0 ∨ h k = 1) (K : ∀ r, dt_Pv h f r → post r) : wpY_previous post (E, wt, h, v, P, Kk, N, hB, vB) f := by
  unfold wpY_previous
  have W := dt_y4 (E := E) (wt := wt) (v := v) (P := P) (Kk := Kk) (N := N) (hB := hB) (vB := vB) h01 K 4096 (by omega) (fun k hk => by omega)
  rw [show nI 4096 - 1 = 4095 by decide] at W
  exact ⟨4096 + 1, W⟩
def dt_q (low high : Int32) (x : Int32) : Bool := !decide (x < low) && !decide (high < x)
theorem dt_q_lo {low high x : Int32} (z : x < low) : ¬ dt_q low high x = true := by
  unfold dt_q; rw [decide_eq_true z]; intro c; cases c
theorem dt_q_hi {low high x : Int32} (z : high < x) : ¬ dt_q low high x = true := by
  unfold dt_q; rw [decide_eq_true z, Bool.not_true, Bool.and_false]; intro c; cases c
theorem dt_q_in {low high x : Int32} (z : ¬ x < low) (y : ¬ high < x) : dt_q low high x = true := by
  unfold dt_q; rw [decide_eq_false z, decide_eq_false y]; rfl
def dt_c (h : Nat → Int32) (low high : Int32) (k : Nat) : Nat := if h k = 0 then 0 else if dt_q low high (nI k) = true then 1 else 0
theorem dt_y5 {post : Int32 → Prop} {low high : Int32} (K : post (nI (dt_sm (dt_c h low high) 4096))) : ∀ d c, c + d = 4096 →
    wY_count_5 post low high E wt h v P Kk N hB vB (d + 1) (nI (dt_sm (dt_c h low high) c)) (nI c) := by
  intro d
  induction d with
  | zero =>
    intro c hc
    obtain rfl : c = 4096 := by omega
    exact br_t (nI_le (a := 4096) (by omega) (by omega)) K
  | succ d ih =>
    intro c hc
    have e : (nI c).toNatClampNeg = c := nI_clamp (by omega)
    have W := ih (c + 1) (by omega)
    rw [show dt_sm (dt_c h low high) (c + 1) = dt_sm (dt_c h low high) c + dt_c h low high c from rfl] at W
    refine br_f (nI_ge (b := 4096) (by omega) (by decide)) ⟨vp_in_nI (by omega) (by omega), ?_⟩
    by_cases y : h c = 0
    · rw [show dt_c h low high c = 0 from if_pos y] at W
      exact br_t (by rw [e]; exact y) (nm_r (nI_1 c) W)
    · refine br_f (by rw [e]; exact y) ?_
      by_cases a : nI c < low
      · rw [show dt_c h low high c = 0 from (if_neg y).trans (if_neg (dt_q_lo a))] at W
        exact br_t a (nm_r (nI_1 c) W)
      · refine br_f a ?_
        by_cases b : high < nI c
        · rw [show dt_c h low high c = 0 from (if_neg y).trans (if_neg (dt_q_hi b))] at W
          exact br_t b (nm_r (nI_1 c) W)
        · rw [show dt_c h low high c = 1 from (if_neg y).trans (if_pos (dt_q_in a b))] at W
          exact br_f b (nm_r (nI_1 _) (nm_r (nI_1 c) W))
theorem dt_Ycount {post : Int32 → Prop} {low high : Int32} (K : post (nI (dt_sm (dt_c h low high) 4096))) : wpY_count post (E, wt, h, v, P, Kk, N, hB, vB) low high := by
  unfold wpY_count
  exact ⟨4096 + 1, dt_y5 K 4096 0 (by omega)⟩
end
end
section
/-! X's next, previous, count -/
section
variable {pK pV nK nV nP bK bV bP h v : Nat → Int32} {ps sz nc : Nat} {wt hd : Int32}
theorem dt_Ls_end (R : dt_Rep ps sz nc pK pV nK nV nP h v) {f l : Int32} (I : dt_Ls (dt_at pK ps sz nK) h f (sz + nc) l) : dt_Nx h f l := by
  have W : ∀ k, k < 4096 → h k = 1 → ∃ q, q < sz + nc ∧ dt_at pK ps sz nK q = nI k := by
    intro k hk hh
    rcases R.2 k hk with ⟨z, _⟩ | ⟨_, q, hq, _⟩
    · rw [z] at hh; exact absurd hh (by decide)
    · exact ⟨q, dt_pl_some hq⟩
  rcases I with ⟨e, a⟩ | ⟨j, hj, e, h1, h2, a⟩
  · refine Or.inl ⟨e, fun k hk hh => ?_⟩
    obtain ⟨q, hq, eq⟩ := W k hk hh
    exact a q hq k hk eq hh
  · refine Or.inr ⟨j, hj, e, h1, h2, fun k hk hh nf => ?_⟩
    obtain ⟨q, hq, eq⟩ := W k hk hh
    exact a q hq k hk eq hh nf
theorem dt_Gs_end (R : dt_Rep ps sz nc pK pV nK nV nP h v) {f l : Int32} (I : dt_Gs (dt_at pK ps sz nK) h f (sz + nc) l) : dt_Pv h f l := by
  have W : ∀ k, k < 4096 → h k = 1 → ∃ q, q < sz + nc ∧ dt_at pK ps sz nK q = nI k := by
    intro k hk hh
    rcases R.2 k hk with ⟨z, _⟩ | ⟨_, q, hq, _⟩
    · rw [z] at hh; exact absurd hh (by decide)
    · exact ⟨q, dt_pl_some hq⟩
  rcases I with ⟨e, a⟩ | ⟨j, hj, e, h1, h2, a⟩
  · refine Or.inl ⟨e, fun k hk hh => ?_⟩
    obtain ⟨q, hq, eq⟩ := W k hk hh
    exact a q hq k hk eq hh
  · refine Or.inr ⟨j, hj, e, h1, h2, fun k hk hh nf => ?_⟩
    obtain ⟨q, hq, eq⟩ := W k hk hh
    exact a q hq k hk eq hh nf
theorem dt_x15 {post : Int32 → Prop} {f : Int32} (R : dt_Rep ps sz nc pK pV nK nV nP h v) (hs : ps = 0 ∨ ps = 60) (hz : sz ≤ 60) (hn : nc ≤ 16) (K : ∀ r, dt_Nx h f r → post r) :
    ∀ (d p : Nat) (l : Int32), p + d = sz + nc → dt_Ls (dt_at pK ps sz nK) h f p l →
    wX_next_15 post f (nI (sz + nc)) (nI ps) (nI sz) (nI nc) wt hd pK pV nK nV nP bK bV bP (d + 1) l (nI p) := by
  intro d
  induction d with
  | zero =>
    intro p l hp I
    obtain rfl : p = sz + nc := by omega
    exact br_t (nI_le (by omega) (by omega)) (K l (dt_Ls_end R I))
  | succ d ih =>
    intro p l hp I
    obtain ⟨k, hk, ek⟩ := R.1 p (by omega)
    have skip : dt_Ls (dt_at pK ps sz nK) h f (p + 1) l → wX_next_50 post (wX_next_15 post f (nI (sz + nc)) (nI ps) (nI sz) (nI nc) wt hd pK pV nK nV nP bK bV bP (d + 1)) f l (nI (sz + nc)) (nI p) (nI k) (nI ps) (nI sz) (nI nc) wt hd pK pV nK nV nP bK bV bP := by
      intro I'
      unfold wX_next_50 wX_next_51
      exact br_t rfl (nm_r (nI_1 p) (ih (p + 1) l (by omega) I'))
    have take : (∀ j, j < 4096 → l = nI j → k ≤ j) → ¬ nI k < f → wX_next_46 post (wX_next_15 post f (nI (sz + nc)) (nI ps) (nI sz) (nI nc) wt hd pK pV nK nV nP bK bV bP (d + 1)) f l (nI (sz + nc)) (nI p) (nI k) (nI ps) (nI sz) (nI nc) wt hd pK pV nK nV nP bK bV bP := by
      intro s nf
      unfold wX_next_46 wX_next_51
      refine br_f (by decide) ?_
      rcases R.2 k hk with ⟨z, hq⟩ | ⟨z, q, hq, _⟩
      · exact dt_placeOf hs hz hn hq (br_t rfl (nm_r (nI_1 p) (ih (p + 1) l (by omega) (dt_Ls_skip I ek hk (fun y => by rw [z] at y; exact absurd y (by decide))))))
      · have hq1 := (dt_pl_some hq).1
        exact dt_placeOf hs hz hn hq (br_f (dt_m1 (by omega)) (nm_r (nI_1 p) (ih (p + 1) (nI k) (by omega) (dt_Ls_take I ek hk z nf s))))
    refine br_f (nI_ge (by omega) (by omega)) (dt_keyAt hs hz hn (by omega) ek ?_)
    by_cases a : nI k < f
    · exact br_t a (skip (dt_Ls_skip I ek hk (fun _ => Or.inl a)))
    · refine br_f a ?_
      by_cases b : l = -1
      · exact br_t b (take (fun j hj e => absurd (e.symm.trans b) (dt_m1 (by omega))) a)
      · refine br_f b ?_
        have I0 := I
        rcases I0 with ⟨e, _⟩ | ⟨j, hj, e, _⟩
        · exact absurd e b
        · by_cases c : j ≤ k
          · exact br_t (by rw [e]; exact nI_le c (by omega)) (skip (dt_Ls_skip I ek hk (fun _ => Or.inr ⟨j, hj, e, c⟩)))
          · refine br_f (by rw [e]; exact nI_ge (by omega) (by omega)) (take (fun i hi ei => ?_) a)
            have := (nI_eq (by omega) (by omega)).mp (e.symm.trans ei)
            omega
theorem dt_x15p {post : Int32 → Prop} {f : Int32} (R : dt_Rep ps sz nc pK pV nK nV nP h v) (hs : ps = 0 ∨ ps = 60) (hz : sz ≤ 60) (hn : nc ≤ 16) (K : ∀ r, dt_Pv h f r → post r) :
    ∀ (d p : Nat) (l : Int32), p + d = sz + nc → dt_Gs (dt_at pK ps sz nK) h f p l →
    wX_previous_15 post f (nI (sz + nc)) (nI ps) (nI sz) (nI nc) wt hd pK pV nK nV nP bK bV bP (d + 1) l (nI p) := by
  intro d
  induction d with
  | zero =>
    intro p l hp I
    obtain rfl : p = sz + nc := by omega
    exact br_t (nI_le (by omega) (by omega)) (K l (dt_Gs_end R I))
  | succ d ih =>
    intro p l hp I
    obtain ⟨k, hk, ek⟩ := R.1 p (by omega)
    have skip : dt_Gs (dt_at pK ps sz nK) h f (p + 1) l → wX_previous_45 post (wX_previous_15 post f (nI (sz + nc)) (nI ps) (nI sz) (nI nc) wt hd pK pV nK nV nP bK bV bP (d + 1)) f l (nI (sz + nc)) (nI p) (nI k) (nI ps) (nI sz) (nI nc) wt hd pK pV nK nV nP bK bV bP := by
      intro I'
      unfold wX_previous_45 wX_previous_46
      exact br_t rfl (nm_r (nI_1 p) (ih (p + 1) l (by omega) I'))
    have take : (∀ j, j < 4096 → l = nI j → j ≤ k) → ¬ f < nI k → wX_previous_46 post (wX_previous_15 post f (nI (sz + nc)) (nI ps) (nI sz) (nI nc) wt hd pK pV nK nV nP bK bV bP (d + 1)) f l (nI (sz + nc)) (nI p) (nI k) 1 (nI ps) (nI sz) (nI nc) wt hd pK pV nK nV nP bK bV bP := by
      intro s nf
      unfold wX_previous_46
      refine br_f (by decide) ?_
      rcases R.2 k hk with ⟨z, hq⟩ | ⟨z, q, hq, _⟩
      · exact dt_placeOf hs hz hn hq (br_t rfl (nm_r (nI_1 p) (ih (p + 1) l (by omega) (dt_Gs_skip I ek hk (fun y => by rw [z] at y; exact absurd y (by decide))))))
      · have hq1 := (dt_pl_some hq).1
        exact dt_placeOf hs hz hn hq (br_f (dt_m1 (by omega)) (nm_r (nI_1 p) (ih (p + 1) (nI k) (by omega) (dt_Gs_take I ek hk z nf s))))
    refine br_f (nI_ge (by omega) (by omega)) (dt_keyAt hs hz hn (by omega) ek ?_)
    by_cases a : f < nI k
    · exact br_t a (skip (dt_Gs_skip I ek hk (fun _ => Or.inl a)))
    · refine br_f a ?_
      have I0 := I
      rcases I0 with ⟨e, _⟩ | ⟨j, hj, e, _⟩
      · refine br_f (fun c => ?_) (take (fun i hi ei => absurd (ei.symm.trans e) (dt_m1 (by omega))) a)
        rw [e, Int32.le_iff_toInt_le, nI_toInt (by omega), show (-1 : Int32).toInt = -1 by decide] at c
        omega
      · by_cases c : k ≤ j
        · exact br_t (by rw [e]; exact nI_le c (by omega)) (skip (dt_Gs_skip I ek hk (fun _ => Or.inr ⟨j, hj, e, c⟩)))
        · refine br_f (by rw [e]; exact nI_ge (by omega) (by omega)) (take (fun i hi ei => ?_) a)
          have := (nI_eq (by omega) (by omega)).mp (e.symm.trans ei)
          omega
theorem dt_x16 {post : Int32 → Prop} {low high : Int32} (hs : ps = 0 ∨ ps = 60) (hz : sz ≤ 60) (hn : nc ≤ 16) (K : post (nI (dt_sm (dt_lv pK ps sz nK nP nc (dt_q low high)) (sz + nc)))) :
    ∀ (d p : Nat), p + d = sz + nc →
    wX_count_16 post low high (nI (sz + nc)) (nI ps) (nI sz) (nI nc) wt hd pK pV nK nV nP bK bV bP (d + 1) (nI (dt_sm (dt_lv pK ps sz nK nP nc (dt_q low high)) p)) (nI p) := by
  intro d
  induction d with
  | zero =>
    intro p hp
    obtain rfl : p = sz + nc := by omega
    exact br_t (nI_le (by omega) (by omega)) K
  | succ d ih =>
    intro p hp
    have W := ih (p + 1) (by omega)
    rw [show dt_sm (dt_lv pK ps sz nK nP nc (dt_q low high)) (p + 1) = dt_sm (dt_lv pK ps sz nK nP nc (dt_q low high)) p + dt_lv pK ps sz nK nP nc (dt_q low high) p from rfl] at W
    refine br_f (nI_ge (by omega) (by omega)) (dt_keyAt hs hz hn (by omega) rfl ?_)
    by_cases a : dt_at pK ps sz nK p < low
    · rw [show dt_lv pK ps sz nK nP nc (dt_q low high) p = 0 from if_neg (fun c => dt_q_lo a c.2)] at W
      exact br_t a (nm_r (nI_1 p) W)
    · refine br_f a ?_
      by_cases b : high < dt_at pK ps sz nK p
      · rw [show dt_lv pK ps sz nK nP nc (dt_q low high) p = 0 from if_neg (fun c => dt_q_hi b c.2)] at W
        exact br_t b (nm_r (nI_1 p) W)
      · refine br_f b (dt_placeOf hs hz hn rfl ?_)
        have hb : ∀ q, dt_pl pK ps sz nK nP nc (dt_at pK ps sz nK p) = some q → q < 2 ^ 31 := fun q hq => by
          have := (dt_pl_some hq).1
          omega
        by_cases y : dt_pl pK ps sz nK nP nc (dt_at pK ps sz nK p) = some p
        · rw [show dt_lv pK ps sz nK nP nc (dt_q low high) p = 1 from if_pos ⟨y, dt_q_in a b⟩] at W
          exact br_t ((dt_encp (by omega) hb).mpr y) (nm_r (nI_1 _) (nm_r (nI_1 p) W))
        · rw [show dt_lv pK ps sz nK nP nc (dt_q low high) p = 0 from if_neg (fun c => y c.1)] at W
          exact br_f (fun z => y ((dt_encp (by omega) hb).mp z)) (nm_r (nI_1 p) W)
end
section
variable {u : SX} {h v bK bV bP : Nat → Int32} {wt hd : Int32}
theorem dt_Xnext {post : Int32 → Prop} {f : Int32} (X : dt_XS u h v wt hd bK bV bP) (K : ∀ r, dt_Nx h f r → post r) : wpX_next post u f := by
  obtain ⟨ps, sz, nc, pK, pV, nK, nV, nP, hs, hz, hn, R, rfl⟩ := X
  unfold wpX_next
  exact nm_r (nI_add sz nc) ⟨sz + nc + 1, dt_x15 R hs hz hn K (sz + nc) 0 (-1) (by omega) (Or.inl ⟨rfl, fun q hq => by omega⟩)⟩
theorem dt_Xprev {post : Int32 → Prop} {f : Int32} (X : dt_XS u h v wt hd bK bV bP) (K : ∀ r, dt_Pv h f r → post r) : wpX_previous post u f := by
  obtain ⟨ps, sz, nc, pK, pV, nK, nV, nP, hs, hz, hn, R, rfl⟩ := X
  unfold wpX_previous
  exact nm_r (nI_add sz nc) ⟨sz + nc + 1, dt_x15p R hs hz hn K (sz + nc) 0 (-1) (by omega) (Or.inl ⟨rfl, fun q hq => by omega⟩)⟩
theorem dt_Xcount {post : Int32 → Prop} {low high : Int32} (X : dt_XS u h v wt hd bK bV bP) (K : post (nI (dt_sm (dt_c h low high) 4096))) : wpX_count post u low high := by
  obtain ⟨ps, sz, nc, pK, pV, nK, nV, nP, hs, hz, hn, R, rfl⟩ := X
  unfold wpX_count
  have e : dt_sm (dt_lv pK ps sz nK nP nc (dt_q low high)) (sz + nc) = dt_sm (dt_c h low high) 4096 := dt_Rep_cnt R (dt_q low high)
  rw [← e] at K
  exact nm_r (nI_add sz nc) ⟨sz + nc + 1, dt_x16 hs hz hn K (sz + nc) 0 (by omega)⟩
end
end
section
/-! commit: the map after each change of the batch -/
theorem dt_sm_bd {f : Nat → Nat} (n : Nat) (h : ∀ i, f i ≤ 1) : dt_sm f n ≤ n := by
  induction n with
  | zero => exact Nat.le_refl _
  | succ n ih =>
    show dt_sm f n + f n ≤ n + 1
    have := h n
    omega
theorem dt_E_le (h : Nat → Int32) : dt_E h ≤ 4096 := dt_sm_bd 4096 fun i => by
  by_cases z : h i = 0
  · show (if h i = 0 then 0 else 1) ≤ 1
    rw [if_pos z]; omega
  · show (if h i = 0 then 0 else 1) ≤ 1
    rw [if_neg z]; omega
def dt_H (h bK bP : Nat → Int32) : Nat → Nat → Int32
  | 0 => h
  | i + 1 => upd (dt_H h bK bP i) (bK i).toNatClampNeg (bP i)
def dt_V (v bK bV bP : Nat → Int32) : Nat → Nat → Int32
  | 0 => v
  | i + 1 => upd (dt_V v bK bV bP i) (bK i).toNatClampNeg (if bP i = 0 then 0 else bV i)
def dt_B (w : Nat) (bK bP : Nat → Int32) : Prop := ∀ i, i < w → (∃ k, k < 4096 ∧ bK i = nI k) ∧ (bP i = 0 ∨ bP i = 1)
theorem dt_undo {f : Nat → Int32} {k : Nat} {a b : Int32} (h : f k = b) : upd (upd f k a) k b = f := by
  funext j
  by_cases e : j = k
  · subst e; rw [pk_us, h]
  · rw [pk_un e, pk_un e]
section
variable {pK pV nK nV nP bK bV bP h v : Nat → Int32} {ps sz nc w : Nat} {wt hd : Int32}
theorem dt_H_s {i k : Nat} (hk : k < 4096) (e : bK i = nI k) : dt_H h bK bP (i + 1) = upd (dt_H h bK bP i) k (bP i) := by
  show upd (dt_H h bK bP i) (bK i).toNatClampNeg (bP i) = _
  rw [e, nI_clamp (by omega)]
theorem dt_V_s {i k : Nat} (hk : k < 4096) (e : bK i = nI k) : dt_V v bK bV bP (i + 1) = upd (dt_V v bK bV bP i) k (if bP i = 0 then 0 else bV i) := by
  show upd (dt_V v bK bV bP i) (bK i).toNatClampNeg (if bP i = 0 then 0 else bV i) = _
  rw [e, nI_clamp (by omega)]
theorem dt_H_01 (hB : dt_B w bK bP) (h01 : ∀ k, k < 4096 → h k = 0 ∨ h k = 1) : ∀ i, i ≤ w → ∀ k, k < 4096 → dt_H h bK bP i k = 0 ∨ dt_H h bK bP i k = 1 := by
  intro i
  induction i with
  | zero => intro _ k hk; exact h01 k hk
  | succ i ih =>
    intro hi k hk
    obtain ⟨⟨j, hj, e⟩, b⟩ := hB i (by omega)
    rw [dt_H_s hj e]
    by_cases c : k = j
    · subst c; rw [pk_us]; exact b
    · rw [pk_un c]; exact ih (by omega) k hk
theorem dt_V_0 (hB : dt_B w bK bP) (h0 : ∀ k, k < 4096 → h k = 0 → v k = 0) : ∀ i, i ≤ w → ∀ k, k < 4096 → dt_H h bK bP i k = 0 → dt_V v bK bV bP i k = 0 := by
  intro i
  induction i with
  | zero => intro _ k hk; exact h0 k hk
  | succ i ih =>
    intro hi k hk
    obtain ⟨⟨j, hj, e⟩, b⟩ := hB i (by omega)
    rw [dt_H_s hj e, dt_V_s hj e]
    by_cases c : k = j
    · subst c
      rw [pk_us, pk_us]
      intro z
      exact if_pos z
    · rw [pk_un c, pk_un c]; exact ih (by omega) k hk
theorem dt_writeS {post : Int32 → SX → Prop} {k : Nat} {x : Int32} (hs : ps = 0 ∨ ps = 60) (hz : sz ≤ 60) (hn : nc < 16) (R : dt_Rep ps sz nc pK pV nK nV nP h v) (hk : k < 4096)
    (K : ∀ r, post r (nI ps, nI sz, nI (nc + 1), wt, nI (dt_E (upd h k 1)), pK, pV, upd nK nc (nI k), upd nV nc x, upd nP nc 1, bK, bV, bP)) :
    wpX_write post (nI ps, nI sz, nI nc, wt, nI (dt_E h), pK, pV, nK, nV, nP, bK, bV, bP) (nI k) x := by
  unfold wpX_write
  rcases R.2 k hk with ⟨z, hp⟩ | ⟨z, p, hp, _⟩
  · refine dt_placeOf hs hz (by omega) hp (br_t rfl ?_)
    rw [dt_E_add hk z] at K
    unfold wX_write_14
    exact dt_hangS (Or.inr rfl) hn (nm_r (nI_1 _) (K _))
  · have hp1 := (dt_pl_some hp).1
    refine dt_placeOf hs hz (by omega) hp (br_f (dt_m1 (by omega)) ?_)
    rw [show dt_E (upd h k 1) = dt_E h by rw [dt_E_same z]] at K
    unfold wX_write_14
    exact dt_hangS (Or.inr rfl) hn (nm_r (Int32.add_zero _) (K _))
theorem dt_eraseS {post : Int32 → SX → Prop} {k : Nat} (hs : ps = 0 ∨ ps = 60) (hz : sz ≤ 60) (hn : nc < 16) (R : dt_Rep ps sz nc pK pV nK nV nP h v) (hk : k < 4096)
    (K0 : h k = 0 → post 0 (nI ps, nI sz, nI nc, wt, nI (dt_E h), pK, pV, nK, nV, nP, bK, bV, bP))
    (K1 : h k = 1 → post 1 (nI ps, nI sz, nI (nc + 1), wt, nI (dt_E (upd h k 0)), pK, pV, upd nK nc (nI k), upd nV nc 0, upd nP nc 0, bK, bV, bP)) :
    wpX_erase post (nI ps, nI sz, nI nc, wt, nI (dt_E h), pK, pV, nK, nV, nP, bK, bV, bP) (nI k) := by
  unfold wpX_erase
  rcases R.2 k hk with ⟨z, hp⟩ | ⟨z, p, hp, _⟩
  · exact dt_placeOf hs hz (by omega) hp (br_t rfl (K0 z))
  · have hp1 := (dt_pl_some hp).1
    have e : nI (dt_E h) - 1 = nI (dt_E (upd h k 0)) := by rw [← dt_E_sub hk z, nI_pred]
    exact dt_placeOf hs hz (by omega) hp (br_f (dt_m1 (by omega)) (dt_hangS (Or.inl rfl) hn (nm_r e (K1 z))))
theorem dt_x38 {post : Int32 → SX → Prop} (hs : ps = 0 ∨ ps = 60) (hz : sz ≤ 60) (hn : nc ≤ 16) (R : dt_Rep ps sz nc pK pV nK nV nP h v) (hw : w ≤ 6) (hB : dt_B w bK bP)
    (h0 : ∀ k, k < 4096 → h k = 0 → v k = 0)
    (K0 : (∃ i, i ≤ w ∧ 60 < dt_E (dt_H h bK bP i)) → ∀ u', dt_XS u' h v 0 (nI (dt_E h)) bK bV bP → post (-1) u')
    (K1 : (∀ i, i ≤ w → dt_E (dt_H h bK bP i) ≤ 60) → ∀ u', dt_XS u' (dt_H h bK bP w) (dt_V v bK bV bP w) 0 (nI (dt_E (dt_H h bK bP w))) bK bV bP → post (nI (dt_E (dt_H h bK bP w))) u') :
    ∀ (d i mc : Nat) (mK mV mP : Nat → Int32), i + d = w → mc + d ≤ 16 → nc ≤ mc → (∀ j, j ≤ i → dt_E (dt_H h bK bP j) ≤ 60) →
    dt_Rep ps sz mc pK pV mK mV mP (dt_H h bK bP i) (dt_V v bK bV bP i) → (∀ m, m < nc → mK m = nK m) → (∀ m, m < nc → mV m = nV m) → (∀ m, m < nc → mP m = nP m) →
    wX_commit_38 post (nI w) (nI nc) (nI (dt_E h)) (d + 1) (nI i) (nI ps) (nI sz) (nI mc) 0 (nI (dt_E (dt_H h bK bP i))) pK pV mK mV mP bK bV bP := by
  intro d
  induction d with
  | zero =>
    intro i mc mK mV mP hi hmc hnm hE R' _ _ _
    obtain rfl : i = w := by omega
    exact br_t (nI_le (by omega) (by omega)) (K1 hE _ ⟨ps, sz, mc, pK, pV, mK, mV, mP, hs, hz, by omega, R', rfl⟩)
  | succ d ih =>
    intro i mc mK mV mP hi hmc hnm hE R' a1 a2 a3
    have e : (nI i).toNatClampNeg = i := nI_clamp (by omega)
    have w6 : vp_in (nI i) 6 := vp_in_nI (by omega) (by omega)
    obtain ⟨⟨k, hk, ek⟩, hb⟩ := hB i (by omega)
    have ek' : bK (nI i).toNatClampNeg = nI k := by rw [e]; exact ek
    have A : ∀ (lc : Nat) (lK lV lP : Nat → Int32), lc + d ≤ 16 → nc ≤ lc → dt_Rep ps sz lc pK pV lK lV lP (dt_H h bK bP (i + 1)) (dt_V v bK bV bP (i + 1)) →
        (∀ m, m < nc → lK m = nK m) → (∀ m, m < nc → lV m = nV m) → (∀ m, m < nc → lP m = nP m) →
        wX_commit_88 post (wX_commit_38 post (nI w) (nI nc) (nI (dt_E h)) (d + 1)) (nI w) (nI nc) (nI (dt_E h)) (nI i) (nI ps) (nI sz) (nI lc) 0 (nI (dt_E (dt_H h bK bP (i + 1)))) pK pV lK lV lP bK bV bP := by
      intro lc lK lV lP hlc hnl RL b1 b2 b3
      unfold wX_commit_88
      by_cases c : dt_E (dt_H h bK bP (i + 1)) ≤ 60
      · refine br_t (nI_le (b := 60) c (by decide)) (nm_r (nI_1 i) (ih (i + 1) lc lK lV lP (by omega) hlc hnl (fun j hj => ?_) RL b1 b2 b3))
        by_cases y : j = i + 1
        · subst y; exact c
        · exact hE j (by omega)
      · have := dt_E_le (dt_H h bK bP (i + 1))
        exact br_f (nI_ge (a := 60) (by omega) (by omega)) (K0 ⟨i + 1, by omega, by omega⟩ _ ⟨ps, sz, nc, pK, pV, lK, lV, lP, hs, hz, hn, dt_Rep_cg R (fun _ _ => rfl) (fun _ _ => rfl) b1 b2 b3, rfl⟩)
    rw [dt_H_s hk ek, dt_V_s hk ek] at A
    refine br_f (nI_ge (by omega) (by omega)) ⟨w6, ?_⟩
    rcases hb with b0 | b1
    · rw [b0, if_pos rfl] at A
      refine br_t (by rw [e]; exact b0) ⟨w6, ?_⟩
      rw [ek']
      refine dt_eraseS hs hz (by omega) R' hk (fun z => ?_) (fun z => ?_)
      · have ev := dt_V_0 (bV := bV) hB h0 i (by omega) k hk z
        rw [dt_E_same z, dt_E_same ev] at A
        exact A mc mK mV mP (by omega) hnm R' a1 a2 a3
      · exact A (mc + 1) _ _ _ (by omega) (by omega) (dt_Rep_note R' hk (Or.inl rfl)) (fun m hm => (pk_un (by omega)).trans (a1 m hm)) (fun m hm => (pk_un (by omega)).trans (a2 m hm)) (fun m hm => (pk_un (by omega)).trans (a3 m hm))
    · rw [b1, if_neg (by decide)] at A
      refine br_f (by rw [e, b1]; decide) ⟨w6, w6, ?_⟩
      rw [ek']
      refine dt_writeS hs hz (by omega) R' hk (fun r => ?_)
      rw [e]
      exact A (mc + 1) _ _ _ (by omega) (by omega) (dt_Rep_note R' hk (Or.inr ⟨rfl, rfl⟩)) (fun m hm => (pk_un (by omega)).trans (a1 m hm)) (fun m hm => (pk_un (by omega)).trans (a2 m hm)) (fun m hm => (pk_un (by omega)).trans (a3 m hm))
end
theorem dt_Xcommit {post : Int32 → SX → Prop} {u : SX} {h v bK bV bP : Nat → Int32} {w : Nat} (X : dt_XS u h v (nI w) (nI (dt_E h)) bK bV bP) (hE : dt_E h ≤ 60) (hw : w ≤ 6) (hB : dt_B w bK bP)
    (h0 : ∀ k, k < 4096 → h k = 0 → v k = 0)
    (K0 : (∃ i, i ≤ w ∧ 60 < dt_E (dt_H h bK bP i)) → ∀ u', dt_XS u' h v 0 (nI (dt_E h)) bK bV bP → post (-1) u')
    (K1 : (∀ i, i ≤ w → dt_E (dt_H h bK bP i) ≤ 60) → ∀ u', dt_XS u' (dt_H h bK bP w) (dt_V v bK bV bP w) 0 (nI (dt_E (dt_H h bK bP w))) bK bV bP → post (nI (dt_E (dt_H h bK bP w))) u') :
    wpX_commit post u := by
  obtain ⟨ps, sz, nc, pK, pV, nK, nV, nP, hs, hz, hn, R, rfl⟩ := X
  unfold wpX_commit
  have E0 : ∀ j, j ≤ 0 → dt_E (dt_H h bK bP j) ≤ 60 := fun j hj => by
    obtain rfl : j = 0 := by omega
    exact hE
  by_cases c : nc + w ≤ 16
  · refine br_t (by rw [nI_add]; exact nI_le (b := 16) c (by decide)) ?_
    unfold wX_commit_25
    exact ⟨w + 1, dt_x38 hs hz hn R hw hB h0 K0 K1 w 0 nc nK nV nP (by omega) c (Nat.le_refl _) E0 R (fun _ _ => rfl) (fun _ _ => rfl) (fun _ _ => rfl)⟩
  · refine br_f (by rw [nI_add]; exact nI_ge (a := 16) (by omega) (by omega)) (dt_anew R hs hz hn hE fun s qK qV hs6 R' => ?_)
    exact ⟨w + 1, dt_x38 (nc := 0) (by omega) hs6 (by omega) R' hw hB h0 K0 K1 w 0 0 nK nV nP (by omega) (by omega) (Nat.le_refl _) E0 R' (fun _ _ => rfl) (fun _ _ => rfl) (fun _ _ => rfl)⟩
section
variable {h v bK bV bP : Nat → Int32} {w : Nat}
theorem dt_y92 {post : Int32 → SY → Prop} (hw : w ≤ 6) (hB : dt_B w bK bP) (h01 : ∀ k, k < 4096 → h k = 0 ∨ h k = 1) (h0 : ∀ k, k < 4096 → h k = 0 → v k = 0) {oH oV : Nat → Int32}
    (a1 : ∀ j, j < w → oH j = dt_H h bK bP j (bK j).toNatClampNeg) (a2 : ∀ j, j < w → oV j = dt_V v bK bV bP j (bK j).toNatClampNeg)
    (K : post (-1) (nI (dt_E h), 0, h, v, bP, bK, bV, oH, oV)) :
    ∀ m, m ≤ w → wY_commit_92 post 1 (m + 1) (nI m - 1) (nI (dt_E (dt_H h bK bP m))) (nI w) (dt_H h bK bP m) (dt_V v bK bV bP m) bP bK bV oH oV := by
  intro m
  induction m with
  | zero =>
    intro _
    refine br_t (by decide) ?_
    unfold wY_commit_128
    exact br_f (by decide) K
  | succ m ih =>
    intro hm
    rw [nI_pred]
    have e : (nI m).toNatClampNeg = m := nI_clamp (by omega)
    have w6 : vp_in (nI m) 6 := vp_in_nI (by omega) (by omega)
    obtain ⟨⟨k, hk, ek⟩, hb⟩ := hB m (by omega)
    have ek' : bK (nI m).toNatClampNeg = nI k := by rw [e]; exact ek
    have b1 : oH m = dt_H h bK bP m k := by rw [a1 m (by omega), ek, nI_clamp (by omega)]
    have b2 : oV m = dt_V v bK bV bP m k := by rw [a2 m (by omega), ek, nI_clamp (by omega)]
    have hH := dt_H_01 hB h01 m (by omega) k hk
    have hH' := dt_H_01 hB h01 (m + 1) hm k hk
    have hV := dt_V_0 (bV := bV) hB h0 m (by omega) k hk
    refine br_f (nI_pos (by omega)) (br_f (by decide) ⟨w6, w6, w6, ?_⟩)
    rw [ek', e, b1, b2]
    refine dt_Ywrite hk hH' hH (y := dt_V v bK bV bP m k) ?_ ?_
    · by_cases z : dt_H h bK bP m k = 0
      · rw [if_pos z, hV z]
      · rw [if_neg z]
    · rw [dt_H_s hk ek, dt_V_s hk ek, dt_undo rfl, dt_undo rfl]
      exact nm_r (Int32.sub_eq_add_neg _ _).symm (ih (by omega))
theorem dt_y92z {post : Int32 → SY → Prop} {x f_waiting : Int32} {E : Int32} {h v a b c d e : Nat → Int32} (K : post E (E, 0, h, v, a, b, c, d, e)) : wY_commit_92 post 0 1 x E f_waiting h v a b c d e := by
  have W : wY_commit_128 post 0 E f_waiting h v a b c d e := by
    unfold wY_commit_128
    exact br_t rfl K
  by_cases z : x < 0
  · exact br_t z W
  · exact br_f z (br_t rfl W)
theorem dt_y4c {post : Int32 → SY → Prop} (hw : w ≤ 6) (hB : dt_B w bK bP) (h01 : ∀ k, k < 4096 → h k = 0 ∨ h k = 1) (h0 : ∀ k, k < 4096 → h k = 0 → v k = 0)
    (K0 : (∃ i, i ≤ w ∧ 60 < dt_E (dt_H h bK bP i)) → ∀ oH oV, post (-1) (nI (dt_E h), 0, h, v, bP, bK, bV, oH, oV))
    (K1 : (∀ i, i ≤ w → dt_E (dt_H h bK bP i) ≤ 60) → ∀ oH oV, post (nI (dt_E (dt_H h bK bP w))) (nI (dt_E (dt_H h bK bP w)), 0, dt_H h bK bP w, dt_V v bK bV bP w, bP, bK, bV, oH, oV)) :
    ∀ (d i : Nat) (t : Int32) (oH oV : Nat → Int32), i + d = w → ((t = 0 ∧ ∀ j, j ≤ i → dt_E (dt_H h bK bP j) ≤ 60) ∨ (t = 1 ∧ ∃ j, j ≤ i ∧ 60 < dt_E (dt_H h bK bP j))) →
    (∀ j, j < i → oH j = dt_H h bK bP j (bK j).toNatClampNeg) → (∀ j, j < i → oV j = dt_V v bK bV bP j (bK j).toNatClampNeg) →
    wY_commit_4 post (d + 1) t (nI i) (nI (dt_E (dt_H h bK bP i))) (nI w) (dt_H h bK bP i) (dt_V v bK bV bP i) bP bK bV oH oV := by
  intro d
  induction d with
  | zero =>
    intro i t oH oV hi ht a1 a2
    obtain rfl : i = w := by omega
    refine br_t (nI_le (by omega) (by omega)) (nm_e ?_)
    rcases ht with ⟨rfl, hE⟩ | ⟨rfl, hE⟩
    · exact ⟨1, dt_y92z (K1 hE oH oV)⟩
    · exact ⟨i + 1, dt_y92 hw hB h01 h0 a1 a2 (K0 hE oH oV) i (Nat.le_refl _)⟩
  | succ d ih =>
    intro i t oH oV hi ht a1 a2
    have e : (nI i).toNatClampNeg = i := nI_clamp (by omega)
    have w6 : vp_in (nI i) 6 := vp_in_nI (by omega) (by omega)
    obtain ⟨⟨k, hk, ek⟩, hb⟩ := hB i (by omega)
    have wk : vp_in (nI k) 4096 := vp_in_nI hk (by omega)
    have ec : (nI k).toNatClampNeg = k := nI_clamp (by omega)
    have ek' : bK (nI i).toNatClampNeg = nI k := by rw [e]; exact ek
    have hH := dt_H_01 hB h01 i (by omega) k hk
    refine br_f (nI_ge (by omega) (by omega)) ⟨w6, by rw [ek']; exact wk, w6, nm_r (e' := upd oH i (dt_H h bK bP i k)) (by rw [ek', ec, e, dt_nb hH]) ⟨w6, by rw [ek']; exact wk, w6, nm_r (e' := upd oV i (dt_V v bK bV bP i k)) (by rw [ek', ec, e]) ⟨w6, w6, w6, ?_⟩⟩⟩
    rw [ek', e]
    refine dt_Ywrite hk hH hb rfl ?_
    have A := fun t' ht' => ih (i + 1) t' (upd oH i (dt_H h bK bP i k)) (upd oV i (dt_V v bK bV bP i k)) (by omega) ht' (fun j hj => by
        by_cases y : j = i
        · subst y; rw [pk_us, ek, ec]
        · rw [pk_un y]; exact a1 j (by omega)) (fun j hj => by
        by_cases y : j = i
        · subst y; rw [pk_us, ek, ec]
        · rw [pk_un y]; exact a2 j (by omega))
    have hle := dt_E_le (dt_H h bK bP (i + 1))
    rw [← dt_H_s hk ek, ← dt_V_s hk ek]
    by_cases c : dt_E (dt_H h bK bP (i + 1)) ≤ 60
    · refine br_t (nI_le (b := 60) c (by decide)) (nm_r (nI_1 i) (A t ?_))
      rcases ht with ⟨z, hE⟩ | ⟨z, j, hj, hE⟩
      · refine Or.inl ⟨z, fun j hj => ?_⟩
        by_cases y : j = i + 1
        · subst y; exact c
        · exact hE j (by omega)
      · exact Or.inr ⟨z, j, by omega, hE⟩
    · exact br_f (nI_ge (a := 60) (by omega) (by omega)) (nm_r (nI_1 i) (A 1 (Or.inr ⟨rfl, i + 1, Nat.le_refl _, by omega⟩)))
theorem dt_Ycommit {post : Int32 → SY → Prop} {oH oV : Nat → Int32} (hE : dt_E h ≤ 60) (hw : w ≤ 6) (hB : dt_B w bK bP) (h01 : ∀ k, k < 4096 → h k = 0 ∨ h k = 1) (h0 : ∀ k, k < 4096 → h k = 0 → v k = 0)
    (K0 : (∃ i, i ≤ w ∧ 60 < dt_E (dt_H h bK bP i)) → ∀ oH oV, post (-1) (nI (dt_E h), 0, h, v, bP, bK, bV, oH, oV))
    (K1 : (∀ i, i ≤ w → dt_E (dt_H h bK bP i) ≤ 60) → ∀ oH oV, post (nI (dt_E (dt_H h bK bP w))) (nI (dt_E (dt_H h bK bP w)), 0, dt_H h bK bP w, dt_V v bK bV bP w, bP, bK, bV, oH, oV)) :
    wpY_commit post (nI (dt_E h), nI w, h, v, bP, bK, bV, oH, oV) := by
  unfold wpY_commit
  exact ⟨w + 1, dt_y4c hw hB h01 h0 K0 K1 w 0 0 oH oV (by omega) (Or.inl ⟨rfl, fun j hj => by
    obtain rfl : j = 0 := by omega
    exact hE⟩) (fun j hj => by omega) (fun j hj => by omega)⟩
end
end
section
/-! what is left of both sides, over a general post -/
section
variable {u : SX} {h v bK bV bP oH oV : Nat → Int32} {wt hd E : Int32}
theorem dt_XS_01 (X : dt_XS u h v wt hd bK bV bP) : ∀ k, k < 4096 → h k = 0 ∨ h k = 1 := by
  obtain ⟨ps, sz, nc, pK, pV, nK, nV, nP, hs, hz, hn, R, rfl⟩ := X
  exact fun k hk => dt_Rep_01 R hk
theorem dt_0up {j : Nat} {b y : Int32} (h0 : ∀ k, k < 4096 → h k = 0 → v k = 0) (hb : b = 0 → y = 0) : ∀ k, k < 4096 → upd h j b k = 0 → upd v j y k = 0 := by
  intro k hk
  by_cases c : k = j
  · subst c; rw [pk_us, pk_us]; exact hb
  · rw [pk_un c, pk_un c]; exact h0 k hk
theorem dt_E_1 {j : Nat} (hj : j < 4096) (h01 : h j = 0 ∨ h j = 1) (hE : dt_E h ≤ 60) (c : h j = 1 ∨ dt_E h < 60) : dt_E (upd h j 1) ≤ 60 := by
  rcases h01 with z | z
  · rw [dt_E_add hj z]
    rcases c with y | y
    · rw [z] at y; exact absurd y (by decide)
    · omega
  · rw [dt_E_same z]; exact hE
theorem dt_Xput_out {post : Int32 → SX → Prop} {x y : Int32} (o : x < 0 ∨ ¬ x ≤ 4095) (K : post (-1) u) : wpX_put post u x y := by
  obtain ⟨a1, a2, a3, a4, a5, a6, a7, a8, a9, a10, a11, a12, a13⟩ := u
  unfold wpX_put
  exact dt_oor_t o (br_f (by decide) K)
theorem dt_Yput_out {post : Int32 → SY → Prop} {u : SY} {x y : Int32} (o : x < 0 ∨ ¬ x ≤ 4095) (K : post (-1) u) : wpY_put post u x y := by
  obtain ⟨a1, a2, a3, a4, a5, a6, a7, a8, a9⟩ := u
  unfold wpY_put
  exact dt_bad_t o (br_f (by decide) K)
theorem dt_Yremove_out {post : Int32 → SY → Prop} {u : SY} {x : Int32} (o : x < 0 ∨ ¬ x ≤ 4095) (K : post 0 u) : wpY_remove post u x := by
  obtain ⟨a1, a2, a3, a4, a5, a6, a7, a8, a9⟩ := u
  unfold wpY_remove
  exact dt_bad_t o (br_f (by decide) K)
theorem dt_Yget_out {post : Int32 → Prop} {u : SY} {x : Int32} (o : x < 0 ∨ ¬ x ≤ 4095) (K : post 0) : wpY_get post u x := by
  obtain ⟨a1, a2, a3, a4, a5, a6, a7, a8, a9⟩ := u
  unfold wpY_get
  exact dt_bad_t o (br_f (by decide) K)
theorem dt_Yhas_out {post : Int32 → Prop} {u : SY} {x : Int32} (o : x < 0 ∨ ¬ x ≤ 4095) (K : post 0) : wpY_has post u x := by
  obtain ⟨a1, a2, a3, a4, a5, a6, a7, a8, a9⟩ := u
  unfold wpY_has
  exact dt_bad_t o (br_f (by decide) K)
theorem dt_Yswap_out {post : Int32 → SY → Prop} {u : SY} {x y z : Int32} (o : x < 0 ∨ ¬ x ≤ 4095) (K : post 0 u) : wpY_swap post u x y z := by
  obtain ⟨a1, a2, a3, a4, a5, a6, a7, a8, a9⟩ := u
  unfold wpY_swap
  exact dt_bad_t o (br_f (by decide) K)
theorem dt_Ystage_out {post : Int32 → SY → Prop} {u : SY} {x y z : Int32} (o : y < 0 ∨ ¬ y ≤ 4095) (K : post (-1) u) : wpY_stage post u x y z := by
  obtain ⟨a1, a2, a3, a4, a5, a6, a7, a8, a9⟩ := u
  unfold wpY_stage
  exact dt_bad_t o (br_f (by decide) K)
theorem dt_Xstage_out {post : Int32 → SX → Prop} {x y z : Int32} (o : y < 0 ∨ ¬ y ≤ 4095) (K : post (-1) u) : wpX_stage post u x y z := by
  obtain ⟨a1, a2, a3, a4, a5, a6, a7, a8, a9, a10, a11, a12, a13⟩ := u
  unfold wpX_stage
  exact dt_oor_t o (br_f (by decide) K)
theorem dt_Yget {post : Int32 → Prop} {k : Nat} (hk : k < 4096) (K : post (v k)) : wpY_get post (E, wt, h, v, bP, bK, bV, oH, oV) (nI k) := by
  have e : (nI k).toNatClampNeg = k := nI_clamp (by omega)
  have w : vp_in (nI k) 4096 := vp_in_nI hk (by omega)
  unfold wpY_get
  exact dt_bad_f hk (br_t rfl ⟨w, by rw [e]; exact K⟩)
theorem dt_Yhas {post : Int32 → Prop} {k : Nat} (hk : k < 4096) (K0 : h k = 0 → post 0) (K1 : ¬ h k = 0 → post 1) : wpY_has post (E, wt, h, v, bP, bK, bV, oH, oV) (nI k) := by
  have e : (nI k).toNatClampNeg = k := nI_clamp (by omega)
  have w : vp_in (nI k) 4096 := vp_in_nI hk (by omega)
  unfold wpY_has
  refine dt_bad_f hk (br_t rfl ⟨w, ?_⟩)
  by_cases z : h k = 0
  · exact br_t (by rw [e]; exact z) (K0 z)
  · exact br_f (by rw [e]; exact z) (K1 z)
theorem dt_Yswap {post : Int32 → SY → Prop} {k : Nat} {y x : Int32} (hk : k < 4096) (h01 : h k = 0 ∨ h k = 1)
    (K0 : ¬ (h k = 1 ∧ v k = y) → post 0 (E, wt, h, v, bP, bK, bV, oH, oV)) (K1 : h k = 1 → v k = y → post 1 (E, wt, h, upd v k x, bP, bK, bV, oH, oV)) :
    wpY_swap post (E, wt, h, v, bP, bK, bV, oH, oV) (nI k) y x := by
  have e : (nI k).toNatClampNeg = k := nI_clamp (by omega)
  have w : vp_in (nI k) 4096 := vp_in_nI hk (by omega)
  unfold wpY_swap
  refine dt_bad_f hk (br_t rfl ⟨w, ?_⟩)
  by_cases z : h k = 0
  · exact br_t (by rw [e]; exact z) (K0 (fun c => by rw [z] at c; exact absurd c.1 (by decide)))
  · refine br_f (by rw [e]; exact z) ⟨w, ?_⟩
    by_cases c : v k = y
    · exact br_t (by rw [e]; exact c) ⟨w, nm_r (e' := upd v k x) (by rw [e]) (K1 (h01.resolve_left z) c)⟩
    · exact br_f (by rw [e]; exact c) (K0 (fun d => c d.2))
theorem dt_Xstage {post : Int32 → SX → Prop} {w k : Nat} {b x : Int32} (X : dt_XS u h v (nI w) hd bK bV bP) (hw : w ≤ 6) (hk : k < 4096) (hb : b = 0 ∨ b = 1)
    (K0 : w = 6 → post (-1) u) (K1 : w < 6 → ∀ u', dt_XS u' h v (nI (w + 1)) hd (upd bK w (nI k)) (upd bV w x) (upd bP w b) → post (nI (w + 1)) u') : wpX_stage post u b (nI k) x := by
  obtain ⟨ps, sz, nc, pK, pV, nK, nV, nP, hs, hz, hn, R, rfl⟩ := X
  have e : (nI w).toNatClampNeg = w := nI_clamp (by omega)
  unfold wpX_stage
  refine dt_oor_f hk (br_t rfl ?_)
  by_cases c : w < 6
  · have w6 : vp_in (nI w) 6 := vp_in_nI c (by omega)
    exact br_t (nI_lt (b := 6) c (by decide)) ⟨w6, nm_r (e' := upd bP w b) (by rw [e, dt_nb hb]) ⟨w6, nm_r (e' := upd bK w (nI k)) (by rw [e]) ⟨w6, nm_r (e' := upd bV w x) (by rw [e]) (nm_r (nI_1 w) (K1 c _ ⟨ps, sz, nc, pK, pV, nK, nV, nP, hs, hz, hn, R, rfl⟩))⟩⟩⟩
  · exact br_f (nI_nlt (b := 6) (by omega) (by omega)) (K0 (by omega))
theorem dt_Ystage {post : Int32 → SY → Prop} {w k : Nat} {b x : Int32} (hw : w ≤ 6) (hk : k < 4096) (hb : b = 0 ∨ b = 1)
    (K0 : w = 6 → post (-1) (E, nI w, h, v, bP, bK, bV, oH, oV)) (K1 : w < 6 → post (nI (w + 1)) (E, nI (w + 1), h, v, upd bP w b, upd bK w (nI k), upd bV w x, oH, oV)) :
    wpY_stage post (E, nI w, h, v, bP, bK, bV, oH, oV) b (nI k) x := by
  have e : (nI w).toNatClampNeg = w := nI_clamp (by omega)
  unfold wpY_stage
  refine dt_bad_f hk (br_t rfl ?_)
  by_cases c : w = 6
  · exact br_t (congrArg nI c) (K0 c)
  · have w6 : vp_in (nI w) 6 := vp_in_nI (by omega) (by omega)
    exact br_f (fun q => c ((nI_eq (b := 6) (by omega) (by decide)).mp q)) ⟨w6, nm_r (e' := upd bP w b) (by rw [e, dt_nb hb]) ⟨w6, nm_r (e' := upd bK w (nI k)) (by rw [e]) ⟨w6, nm_r (e' := upd bV w x) (by rw [e]) (nm_r (nI_1 w) (K1 (by omega)))⟩⟩⟩
theorem dt_B_s {w k : Nat} {b : Int32} (hB : dt_B w bK bP) (hk : k < 4096) (hb : b = 0 ∨ b = 1) : dt_B (w + 1) (upd bK w (nI k)) (upd bP w b) := by
  intro i hi
  by_cases c : i = w
  · subst c; rw [pk_us, pk_us]; exact ⟨⟨k, hk, rfl⟩, hb⟩
  · rw [pk_un c, pk_un c]; exact hB i (by omega)
theorem dt_Ytidy {post : SY → Prop} {u : SY} (K : post u) : wpY_tidy post u := by
  obtain ⟨a1, a2, a3, a4, a5, a6, a7, a8, a9⟩ := u
  unfold wpY_tidy
  exact K
end
end
section
/-- page and notes stand for the reference's map; the batch is the same on both sides; both count the same entries -/
def i_Rel (_ : Nat) (u : SX) (v : SY) : Prop :=
  ∃ (w : Nat) (h vl bK bV bP oH oV : Nat → Int32), w ≤ 6 ∧ dt_E h ≤ 60 ∧ (∀ j, j < 4096 → h j = 0 → vl j = 0) ∧ dt_B w bK bP ∧ dt_XS u h vl (nI w) (nI (dt_E h)) bK bV bP ∧ v = (nI (dt_E h), nI w, h, vl, bP, bK, bV, oH, oV)
theorem i_up {k : Nat} {u : SX} {v : SY} (h : i_Rel k u v) : i_Rel (k + 4) u v := h
theorem i_vc0 : wpX_init (fun u => wpY_init (fun v => i_Rel 0 u v)) := by
  have e : dt_E (fun _ => 0) = 0 := dt_sm_0 (fun j _ => if_pos rfl)
  unfold wpX_init wpY_init
  refine ⟨0, fun _ => 0, fun _ => 0, fun _ => 0, fun _ => 0, fun _ => 0, fun _ => 0, fun _ => 0, by omega, by omega, fun _ _ _ => rfl, fun i hi => by omega, ⟨0, 0, 0, fun _ => 0, fun _ => 0, fun _ => 0, fun _ => 0, fun _ => 0, Or.inl rfl, by omega, by omega, ⟨fun p hp => by omega, fun k hk => Or.inl ⟨rfl, rfl⟩⟩, ?_⟩, ?_⟩
  · rw [e]; rfl
  · rw [e]; rfl
theorem i_vc_put {k : Nat} {u : SX} {v : SY} (I : i_Rel k u v) (hk : k + 4 ≤ 2048) (v1 : Int32) (v2 : Int32) : wpX_put (fun r u' => wpY_put (fun r' v' => r' = r ∧ i_Rel (k + 4) u' v') v v1 v2) u v1 v2 := by
  obtain ⟨w, h, vl, bK, bV, bP, oH, oV, hw, hE, h0, hB, X, rfl⟩ := I
  have h01 := dt_XS_01 X
  rcases dt_rng v1 with ⟨o, no⟩ | ⟨j, hj, rfl⟩
  · exact dt_Xput_out o (dt_Yput_out o ⟨rfl, w, h, vl, bK, bV, bP, oH, oV, hw, hE, h0, hB, X, rfl⟩)
  · refine dt_Xput X hE hj (fun z c => ?_) (fun c u' X' => ?_)
    · refine dt_Yput hE hj (h01 j hj) (fun _ _ => ⟨rfl, w, h, vl, bK, bV, bP, oH, oV, hw, hE, h0, hB, X, rfl⟩) (fun d => ?_)
      rcases d with d | d
      · rw [z] at d; exact absurd d (by decide)
      · omega
    · refine dt_Yput hE hj (h01 j hj) (fun z d => ?_) (fun _ => ⟨rfl, w, upd h j 1, upd vl j v2, bK, bV, bP, oH, oV, hw, dt_E_1 hj (h01 j hj) hE c, dt_0up h0 (fun y => absurd y (by decide)), hB, X', rfl⟩)
      rcases c with c | c
      · rw [z] at c; exact absurd c (by decide)
      · omega
theorem i_vc_remove {k : Nat} {u : SX} {v : SY} (I : i_Rel k u v) (hk : k + 4 ≤ 2048) (v1 : Int32) : wpX_remove (fun r u' => wpY_remove (fun r' v' => r' = r ∧ i_Rel (k + 4) u' v') v v1) u v1 := by
  obtain ⟨w, h, vl, bK, bV, bP, oH, oV, hw, hE, h0, hB, X, rfl⟩ := I
  have h01 := dt_XS_01 X
  rcases dt_rng v1 with ⟨o, no⟩ | ⟨j, hj, rfl⟩
  · exact dt_Xremove (dt_erase_out X no (dt_Yremove_out o ⟨rfl, w, h, vl, bK, bV, bP, oH, oV, hw, hE, h0, hB, X, rfl⟩))
  · refine dt_Xremove (dt_erase X hE hj (fun z => ?_) (fun z u' X' => ?_))
    · refine dt_Yremove hj (h01 j hj) (fun _ => ⟨rfl, w, h, vl, bK, bV, bP, oH, oV, hw, hE, h0, hB, X, rfl⟩) (fun d => ?_)
      rw [z] at d; exact absurd d (by decide)
    · refine dt_Yremove hj (h01 j hj) (fun d => ?_) (fun _ => ⟨rfl, w, upd h j 0, upd vl j 0, bK, bV, bP, oH, oV, hw, ?_, dt_0up h0 (fun _ => rfl), hB, X', rfl⟩)
      · rw [z] at d; exact absurd d (by decide)
      · have := dt_E_sub hj z
        omega
theorem i_vc_get {k : Nat} {u : SX} {v : SY} (I : i_Rel k u v) (hk : k + 4 ≤ 2048) (v1 : Int32) : wpX_get (fun r => wpY_get (fun r' => r' = r ∧ i_Rel (k + 4) u v) v v1) u v1 := by
  have I0 := I
  obtain ⟨w, h, vl, bK, bV, bP, oH, oV, hw, hE, h0, hB, X, rfl⟩ := I
  rcases dt_rng v1 with ⟨o, no⟩ | ⟨j, hj, rfl⟩
  · exact dt_Xget_out X no (dt_Yget_out o ⟨rfl, I0⟩)
  · exact dt_Xget X hj (h0 j hj) (dt_Yget hj ⟨rfl, I0⟩)
theorem i_vc_has {k : Nat} {u : SX} {v : SY} (I : i_Rel k u v) (hk : k + 4 ≤ 2048) (v1 : Int32) : wpX_has (fun r => wpY_has (fun r' => r' = r ∧ i_Rel (k + 4) u v) v v1) u v1 := by
  have I0 := I
  obtain ⟨w, h, vl, bK, bV, bP, oH, oV, hw, hE, h0, hB, X, rfl⟩ := I
  rcases dt_rng v1 with ⟨o, no⟩ | ⟨j, hj, rfl⟩
  · exact dt_Xhas_out X no (dt_Yhas_out o ⟨rfl, I0⟩)
  · refine dt_Xhas X hj (fun z => dt_Yhas hj (fun _ => ⟨rfl, I0⟩) (fun d => absurd z d)) (fun z => dt_Yhas hj (fun d => ?_) (fun _ => ⟨rfl, I0⟩))
    rw [z] at d; exact absurd d (by decide)
theorem i_vc_next {k : Nat} {u : SX} {v : SY} (I : i_Rel k u v) (hk : k + 4 ≤ 2048) (v1 : Int32) : wpX_next (fun r => wpY_next (fun r' => r' = r ∧ i_Rel (k + 4) u v) v v1) u v1 := by
  have I0 := I
  obtain ⟨w, h, vl, bK, bV, bP, oH, oV, hw, hE, h0, hB, X, rfl⟩ := I
  exact dt_Xnext X fun r a => dt_Ynext (dt_XS_01 X) fun r' b => ⟨dt_Nx_u a b, I0⟩
theorem i_vc_previous {k : Nat} {u : SX} {v : SY} (I : i_Rel k u v) (hk : k + 4 ≤ 2048) (v1 : Int32) : wpX_previous (fun r => wpY_previous (fun r' => r' = r ∧ i_Rel (k + 4) u v) v v1) u v1 := by
  have I0 := I
  obtain ⟨w, h, vl, bK, bV, bP, oH, oV, hw, hE, h0, hB, X, rfl⟩ := I
  exact dt_Xprev X fun r a => dt_Yprev (dt_XS_01 X) fun r' b => ⟨dt_Pv_u a b, I0⟩
theorem i_vc_count {k : Nat} {u : SX} {v : SY} (I : i_Rel k u v) (hk : k + 4 ≤ 2048) (v1 : Int32) (v2 : Int32) : wpX_count (fun r => wpY_count (fun r' => r' = r ∧ i_Rel (k + 4) u v) v v1 v2) u v1 v2 := by
  have I0 := I
  obtain ⟨w, h, vl, bK, bV, bP, oH, oV, hw, hE, h0, hB, X, rfl⟩ := I
  exact dt_Xcount X (dt_Ycount ⟨rfl, I0⟩)
theorem i_vc_swap {k : Nat} {u : SX} {v : SY} (I : i_Rel k u v) (hk : k + 4 ≤ 2048) (v1 : Int32) (v2 : Int32) (v3 : Int32) : wpX_swap (fun r u' => wpY_swap (fun r' v' => r' = r ∧ i_Rel (k + 4) u' v') v v1 v2 v3) u v1 v2 v3 := by
  obtain ⟨w, h, vl, bK, bV, bP, oH, oV, hw, hE, h0, hB, X, rfl⟩ := I
  have h01 := dt_XS_01 X
  rcases dt_rng v1 with ⟨o, no⟩ | ⟨j, hj, rfl⟩
  · exact dt_Xswap_out X no (dt_Yswap_out o ⟨rfl, w, h, vl, bK, bV, bP, oH, oV, hw, hE, h0, hB, X, rfl⟩)
  · refine dt_Xswap X hE hj (fun n => ?_) (fun z c u' X' => ?_)
    · exact dt_Yswap hj (h01 j hj) (fun _ => ⟨rfl, w, h, vl, bK, bV, bP, oH, oV, hw, hE, h0, hB, X, rfl⟩) (fun z c => absurd ⟨z, c⟩ n)
    · refine dt_Yswap hj (h01 j hj) (fun n => absurd ⟨z, c⟩ n) (fun _ _ => ⟨rfl, w, h, upd vl j v3, bK, bV, bP, oH, oV, hw, hE, ?_, hB, X', rfl⟩)
      intro i hi y
      by_cases d : i = j
      · subst d; rw [z] at y; exact absurd y (by decide)
      · rw [pk_un d]; exact h0 i hi y
theorem i_vc_stage {k : Nat} {u : SX} {v : SY} (I : i_Rel k u v) (hk : k + 4 ≤ 2048) (v1 : Int32) (v2 : Int32) (v3 : Int32) : wpX_stage (fun r u' => wpY_stage (fun r' v' => r' = r ∧ i_Rel (k + 4) u' v') v (lw_bz v1) v2 v3) u (lw_bz v1) v2 v3 := by
  obtain ⟨w, h, vl, bK, bV, bP, oH, oV, hw, hE, h0, hB, X, rfl⟩ := I
  have hb := lw_bz_01 v1
  rcases dt_rng v2 with ⟨o, no⟩ | ⟨j, hj, rfl⟩
  · exact dt_Xstage_out o (dt_Ystage_out o ⟨rfl, w, h, vl, bK, bV, bP, oH, oV, hw, hE, h0, hB, X, rfl⟩)
  · refine dt_Xstage X hw hj hb (fun z => ?_) (fun z u' X' => ?_)
    · exact dt_Ystage hw hj hb (fun _ => ⟨rfl, w, h, vl, bK, bV, bP, oH, oV, hw, hE, h0, hB, X, rfl⟩) (fun c => by omega)
    · exact dt_Ystage hw hj hb (fun c => by omega) (fun _ => ⟨rfl, w + 1, h, vl, _, _, _, oH, oV, by omega, hE, h0, dt_B_s hB hj hb, X', rfl⟩)
theorem i_vc_commit {k : Nat} {u : SX} {v : SY} (I : i_Rel k u v) (hk : k + 4 ≤ 2048) : wpX_commit (fun r u' => wpY_commit (fun r' v' => r' = r ∧ i_Rel (k + 4) u' v') v) u := by
  obtain ⟨w, h, vl, bK, bV, bP, oH, oV, hw, hE, h0, hB, X, rfl⟩ := I
  have h01 := dt_XS_01 X
  refine dt_Xcommit X hE hw hB h0 (fun T u' X' => ?_) (fun F u' X' => ?_)
  · refine dt_Ycommit hE hw hB h01 h0 (fun _ oH oV => ⟨rfl, 0, h, vl, bK, bV, bP, oH, oV, by omega, hE, h0, fun i hi => by omega, X', rfl⟩) (fun F => ?_)
    obtain ⟨i, hi, c⟩ := T
    have := F i hi
    omega
  · refine dt_Ycommit hE hw hB h01 h0 (fun T => ?_) (fun _ oH oV => ⟨rfl, 0, dt_H h bK bP w, dt_V vl bK bV bP w, bK, bV, bP, oH, oV, by omega, F w (Nat.le_refl _), dt_V_0 hB h0 w (Nat.le_refl _), fun i hi => by omega, X', rfl⟩)
    obtain ⟨i, hi, c⟩ := T
    have := F i hi
    omega
theorem i_vc_tidy {k : Nat} {u : SX} {v : SY} (I : i_Rel k u v) (hk : k + 4 ≤ 2048) : wpX_tidy (fun u' => wpY_tidy (fun v' => i_Rel (k + 4) u' v') v) u := by
  obtain ⟨w, h, vl, bK, bV, bP, oH, oV, hw, hE, h0, hB, X, rfl⟩ := I
  exact dt_Xtidy X hE fun u' X' => dt_Ytidy ⟨w, h, vl, bK, bV, bP, oH, oV, hw, hE, h0, hB, X', rfl⟩
end

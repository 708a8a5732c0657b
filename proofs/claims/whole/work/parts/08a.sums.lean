/-! sums and counts over 0 .. n - 1 -/
def zS : Nat → (Int → Int) → Int
  | 0, _ => 0
  | n + 1, f => zS n f + f n
theorem zS_0 {f : Int → Int} : zS 0 f = 0 := rfl
theorem zS_s {n : Nat} {f : Int → Int} : zS (n + 1) f = zS n f + f n := rfl
theorem zS_le {f g : Int → Int} : ∀ n : Nat, (∀ i : Int, 0 ≤ i → i < n → f i ≤ g i) → zS n f ≤ zS n g := by
  intro n
  induction n with
  | zero => intro _; exact Int.le_refl _
  | succ n ih =>
    intro h
    rw [zS_s, zS_s]
    have h1 := ih (fun i a b => h i a (by omega))
    have h2 := h n (by omega) (by omega)
    omega
theorem zS_eq {f g : Int → Int} (n : Nat) (h : ∀ i : Int, 0 ≤ i → i < n → f i = g i) : zS n f = zS n g := by
  have h1 := zS_le n (fun i a b => Int.le_of_eq (h i a b))
  have h2 := zS_le n (fun i a b => Int.le_of_eq (h i a b).symm)
  omega
theorem zS_lt {f g : Int → Int} (n : Nat) (h : ∀ i : Int, 0 ≤ i → i < n → f i ≤ g i) {j : Int} (hj : 0 ≤ j ∧ j < n) (hl : f j < g j) : zS n f < zS n g := by
  induction n with
  | zero => omega
  | succ n ih =>
    rw [zS_s, zS_s]
    by_cases q : j = n
    · have h1 := zS_le n (fun i a b => h i a (by omega))
      rw [q] at hl
      omega
    · have h1 := ih (fun i a b => h i a (by omega)) ⟨hj.1, by omega⟩
      have h2 := h n (by omega) (by omega)
      omega
theorem zS_add {f g : Int → Int} (n : Nat) : zS n (fun i => f i + g i) = zS n f + zS n g := by
  induction n with
  | zero => rfl
  | succ n ih =>
    rw [zS_s, zS_s, zS_s, ih]
    omega
theorem zS_const (n : Nat) (c : Int) : zS n (fun _ => c) = n * c := by
  induction n with
  | zero => simp [zS_0]
  | succ n ih =>
    rw [zS_s, ih]
    push_cast
    rw [Int.add_mul, Int.one_mul]
theorem zS_mul {f : Int → Int} (n : Nat) (c : Int) : zS n (fun i => c * f i) = c * zS n f := by
  induction n with
  | zero => simp [zS_0]
  | succ n ih => rw [zS_s, zS_s, ih, Int.mul_add]
theorem zS_swap {f : Int → Int → Int} (n k : Nat) : zS n (fun i => zS k (fun j => f i j)) = zS k (fun j => zS n (fun i => f i j)) := by
  induction n with
  | zero =>
    show (0 : Int) = _
    have : zS k (fun j => zS 0 (fun i => f i j)) = zS k (fun _ => 0) := rfl
    rw [this, zS_const]
    simp
  | succ n ih =>
    rw [zS_s, ih]
    have : zS k (fun j => zS (n + 1) (fun i => f i j)) = zS k (fun j => zS n (fun i => f i j) + f n j) := rfl
    rw [this, zS_add]
theorem zS_nn {f : Int → Int} (n : Nat) (h : ∀ i : Int, 0 ≤ i → i < n → 0 ≤ f i) : 0 ≤ zS n f := by
  have := zS_le (f := fun _ => 0) n h
  rw [zS_const] at this
  simpa using this
theorem zS_one {f : Int → Int} (n : Nat) {j : Int} (hj : 0 ≤ j ∧ j < n) (h : ∀ i : Int, 0 ≤ i → i < n → i ≠ j → f i = 0) : zS n f = f j := by
  induction n with
  | zero => omega
  | succ n ih =>
    rw [zS_s]
    by_cases q : j = n
    · rw [q, zS_eq (g := fun _ => 0) n (fun i a b => h i a (by omega) (by omega)), zS_const]
      simp
    · rw [ih ⟨hj.1, by omega⟩ (fun i a b => h i a (by omega)), h n (by omega) (by omega) (by omega)]
      simp
/-- 1 where it holds -/
def zi (b : Bool) : Int := if b = true then 1 else 0
theorem zi_r (b : Bool) : 0 ≤ zi b ∧ zi b ≤ 1 := by
  cases b <;> decide
theorem zi_t {b : Bool} (h : b = true) : zi b = 1 := by
  subst h
  rfl
theorem zi_f {b : Bool} (h : b = false) : zi b = 0 := by
  subst h
  rfl
/-- how many below n -/
def zN (n : Nat) (P : Int → Bool) : Int := zS n (fun i => zi (P i))
theorem zN_s {n : Nat} {P : Int → Bool} : zN (n + 1) P = zN n P + zi (P n) := rfl
theorem zN_r {P : Int → Bool} (n : Nat) : 0 ≤ zN n P ∧ zN n P ≤ n := by
  induction n with
  | zero => exact ⟨Int.le_refl _, Int.le_refl _⟩
  | succ n ih =>
    rw [zN_s]
    have := zi_r (P n)
    omega
theorem zN_le {P Q : Int → Bool} (n : Nat) (h : ∀ i : Int, 0 ≤ i → i < n → P i = true → Q i = true) : zN n P ≤ zN n Q := by
  refine zS_le n (fun i a b => ?_)
  have := h i a b
  cases hp : P i with
  | false => exact (zi_r (Q i)).1
  | true => rw [this hp]; exact Int.le_refl _
theorem zN_lt {P Q : Int → Bool} (n : Nat) (h : ∀ i : Int, 0 ≤ i → i < n → P i = true → Q i = true) {j : Int} (hj : 0 ≤ j ∧ j < n) (h1 : P j = false) (h2 : Q j = true) : zN n P < zN n Q := by
  refine zS_lt n (fun i a b => ?_) hj ?_
  · have := h i a b
    cases hp : P i with
    | false => exact (zi_r (Q i)).1
    | true => rw [this hp]; exact Int.le_refl _
  · show zi (P j) < zi (Q j)
    rw [h1, h2]
    decide
theorem zN_mono {P : Int → Bool} {n k : Nat} (h : n ≤ k) : zN n P ≤ zN k P := by
  induction k with
  | zero =>
    obtain rfl : n = 0 := by omega
    exact Int.le_refl _
  | succ k ih =>
    by_cases q : n = k + 1
    · subst q
      exact Int.le_refl _
    · rw [zN_s]
      have := ih (by omega)
      have := (zi_r (P k)).1
      omega
theorem zN_eq {P Q : Int → Bool} (n : Nat) (h : ∀ i : Int, 0 ≤ i → i < n → P i = Q i) : zN n P = zN n Q := zS_eq n (fun i a b => by rw [h i a b])
theorem zN_not {P : Int → Bool} (n : Nat) : zN n P + zN n (fun i => !P i) = n := by
  unfold zN
  rw [← zS_add]
  rw [zS_eq (g := fun _ => 1) n (fun i _ _ => by show zi (P i) + zi (!P i) = 1; cases P i <;> rfl), zS_const]
  omega
/-- counting along a map without two of one value -/
theorem zN_inj {P : Int → Bool} (n k : Nat) {g : Int → Int} (hg : ∀ i : Int, 0 ≤ i → i < n → 0 ≤ g i ∧ g i < k) (hi : ∀ i j : Int, 0 ≤ i → i < n → 0 ≤ j → j < n → g i = g j → i = j) : zN n (fun i => P (g i)) ≤ zN k P := by
  have e1 : zN n (fun i => P (g i)) = zS n (fun i => zS k (fun j => zi (decide (g i = j)) * zi (P j))) := by
    refine zS_eq n (fun i a b => ?_)
    obtain ⟨h1, h2⟩ := hg i a b
    rw [zS_one k (j := g i) ⟨h1, h2⟩ (fun j _ _ q => by rw [zi_f (decide_eq_false (fun e => q e.symm)), Int.zero_mul])]
    rw [zi_t (decide_eq_true rfl), Int.one_mul]
  rw [e1, zS_swap]
  refine zS_le k (fun j a b => ?_)
  show zS n (fun i => zi (decide (g i = j)) * zi (P j)) ≤ zi (P j)
  by_cases q : ∃ i : Int, 0 ≤ i ∧ i < n ∧ g i = j
  · obtain ⟨i, i1, i2, i3⟩ := q
    rw [zS_one n (j := i) ⟨i1, i2⟩ (fun i' c1 c2 c3 => by
      rw [zi_f (decide_eq_false (fun e => c3 (hi i' i c1 c2 i1 i2 (by rw [e, i3])))), Int.zero_mul])]
    rw [zi_t (decide_eq_true i3), Int.one_mul]
    exact Int.le_refl _
  · rw [zS_eq (g := fun _ => 0) n (fun i c1 c2 => by rw [zi_f (decide_eq_false (fun e => q ⟨i, c1, c2, e⟩)), Int.zero_mul]), zS_const]
    have := (zi_r (P j)).1
    simpa using this

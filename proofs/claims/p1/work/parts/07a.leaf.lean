/-! LEAVES: what the small methods answer -/
theorem zy1 {A B : Prop} (h : A) : (¬ (1 : Int) = 0 → A) ∧ ((1 : Int) = 0 → B) := ⟨fun _ => h, fun q => absurd q (by decide)⟩
theorem zy1' {A B : Prop} (h : A) : ((1 : Int) = 0 → B) ∧ (¬ (1 : Int) = 0 → A) := ⟨fun q => absurd q (by decide), fun _ => h⟩
theorem zy0 {A B : Prop} (h : B) : (¬ (0 : Int) = 0 → A) ∧ ((0 : Int) = 0 → B) := ⟨fun q => absurd rfl q, fun _ => h⟩
theorem zy0' {A B : Prop} (h : B) : ((0 : Int) = 0 → B) ∧ (¬ (0 : Int) = 0 → A) := ⟨fun _ => h, fun q => absurd rfl q⟩
/-! going up -/
theorem z_up {P : Int → Prop} {lo N : Int} (h : ∀ k, lo ≤ k → k ≤ N → (k < N → P (k + 1)) → P k) : ∀ k, lo ≤ k → k ≤ N → P k := by
  have key : ∀ n : Nat, ∀ k : Int, lo ≤ k → k ≤ N → n = (N - k).toNat → P k := by
    intro n
    induction n with
    | zero => intro k h1 h2 h3; exact h k h1 h2 (fun q => by omega)
    | succ n ih => intro k h1 h2 h3; exact h k h1 h2 (fun q => ih (k + 1) (by omega) (by omega) (by omega))
  intro k h1 h2
  exact key _ k h1 h2 rfl
theorem z_cpy_ne {μ : z_Mem} {o1 sp o2 dp n p i : Int} (h : p ≠ o2) : z_cpy μ o1 sp o2 dp n p i = μ p i := by
  unfold z_cpy
  rw [if_neg (fun q => h q.1)]
theorem z_cpy_in {μ : z_Mem} {o1 sp o2 dp n i : Int} (h : dp ≤ i ∧ i < dp + n) : z_cpy μ o1 sp o2 dp n o2 i = μ o1 (sp + (i - dp)) := by
  unfold z_cpy
  rw [if_pos ⟨rfl, h.1, h.2⟩]
theorem z_cpy_out {μ : z_Mem} {o1 sp o2 dp n p i : Int} (h : i < dp ∨ dp + n ≤ i) : z_cpy μ o1 sp o2 dp n p i = μ p i := by
  unfold z_cpy
  rw [if_neg (by rintro ⟨_, q1, q2⟩; omega)]
theorem z_cpy_0 {μ : z_Mem} {o1 sp o2 dp : Int} : z_cpy μ o1 sp o2 dp 0 = μ := by
  funext p i
  exact z_cpy_out (by omega)
theorem z_cpy_s {μ : z_Mem} {r0 a r2 b k : Int} (hne : r0 ≠ r2) (hk : 0 ≤ k) : z_st (z_cpy μ r0 a r2 b k) r2 (b + k) ((z_cpy μ r0 a r2 b k) r0 (a + k)) = z_cpy μ r0 a r2 b (k + 1) := by
  rw [z_cpy_ne hne]
  funext p i
  by_cases hp : p = r2
  · subst hp
    by_cases hi : i = b + k
    · subst hi
      rw [z_st_eq, z_cpy_in ⟨by omega, by omega⟩, show b + k - b = k by omega]
    · rw [z_st_ni hi]
      by_cases hj : b ≤ i ∧ i < b + k
      · rw [z_cpy_in hj, z_cpy_in ⟨hj.1, by omega⟩]
      · rw [z_cpy_out (by omega), z_cpy_out (by omega)]
  · rw [z_st_ne hp, z_cpy_ne hp, z_cpy_ne hp]
theorem e_moves {r0 n0 r2 n2 a b : Int} {μ : z_Mem} {d : Nat} {Kn : z_Mem → Prop} (hr0 : z_kd r0 = 14 ∧ z_ln r0 = n0) (hr2 : z_kd r2 = 14 ∧ z_ln r2 = n2) (hne : r0 ≠ r2) (ha : 0 ≤ a ∧ a + 143 ≤ n0) (hb : 0 ≤ b ∧ b + 143 ≤ n2) (hn : n0 ≤ 2000 ∧ n2 ≤ 2000) (h : Kn (z_cpy μ r0 a r2 b 143)) : z_cn m_X12_moves [(2, r0), (0, a), (2, r2), (0, b)] μ d Kn := by
  have key : ∀ k : Int, 0 ≤ k → k ≤ 143 → z_rn m_X12_moves 3 [some (2, r0), some (0, a), some (2, r2), some (0, b), some (0, k)] (z_cpy μ r0 a r2 b k) d Kn := by
    refine z_up (fun k h3 h4 ih => V_X12_moves_3 hr0 hr2 ⟨fun q => ?_, fun q => ⟨⟨by omega, by omega⟩, ⟨by omega, by omega⟩, ⟨by omega, by omega⟩, ⟨by omega, by omega⟩, ⟨by omega, by omega⟩, ?_⟩⟩)
    · obtain rfl : k = 143 := by omega
      exact h
    · rw [z_cpy_s hne h3]
      exact ih q
  have := key 0 (by decide) (by decide)
  rw [z_cpy_0] at this
  exact V_X12_moves hr0 hr2 this
/-- the row of what is heard, made empty -/
def z_hd (μ : z_Mem) (k : Int) : z_Mem := fun p i => if p = 115 ∧ 0 ≤ i ∧ i < k then (if i < 83 then 0 else 1) else μ p i
theorem z_hd_ne {μ : z_Mem} {k p i : Int} (h : p ≠ 115) : z_hd μ k p i = μ p i := by
  unfold z_hd
  rw [if_neg (fun q => h q.1)]
theorem z_hd_in {μ : z_Mem} {k i : Int} (h : 0 ≤ i ∧ i < k) : z_hd μ k 115 i = if i < 83 then 0 else 1 := by
  unfold z_hd
  exact if_pos ⟨rfl, h.1, h.2⟩
theorem z_hd_out {μ : z_Mem} {k p i : Int} (h : ¬ (0 ≤ i ∧ i < k)) : z_hd μ k p i = μ p i := by
  unfold z_hd
  exact if_neg (fun q => h q.2)
theorem z_hd_s {μ : z_Mem} {k : Int} (hk : 0 ≤ k) : z_st (z_hd μ k) 115 k (if k < 83 then 0 else 1) = z_hd μ (k + 1) := by
  funext p i
  by_cases hp : p = 115
  · subst hp
    by_cases hi : i = k
    · subst hi
      rw [z_st_eq, z_hd_in ⟨hk, by omega⟩]
    · rw [z_st_ni hi]
      by_cases hj : 0 ≤ i ∧ i < k
      · rw [z_hd_in hj, z_hd_in ⟨hj.1, by omega⟩]
      · rw [z_hd_out hj, z_hd_out (by omega)]
  · rw [z_st_ne hp, z_hd_ne hp, z_hd_ne hp]
theorem z_hd_0 {μ : z_Mem} : z_hd μ 0 = μ := by
  funext p i
  unfold z_hd
  rw [if_neg (by rintro ⟨_, q1, q2⟩; omega)]
theorem e_hears {μ : z_Mem} {d : Nat} {K : Int → z_Mem → Prop} (h : z_cn m_X12_readsPart [(2, 113)] (z_hd μ 143) d (fun m3 => z_ri m_X12_solid 46 [some (2, 113), none] m3 (d + 1) K)) : z_ri m_X12_solid 12 [some (2, 113), some (0, 0)] μ (d + 1) K := by
  have key : ∀ k : Int, 0 ≤ k → k ≤ 143 → z_ri m_X12_solid 12 [some (2, 113), some (0, k)] (z_hd μ k) (d + 1) K := by
    refine z_up (fun k h3 h4 ih => V_X12_solid_12 ⟨fun q => ?_, fun q => ⟨fun r => ⟨⟨by omega, by omega⟩, ⟨by omega, by omega⟩, ?_⟩, fun r => ⟨⟨by omega, by omega⟩, ⟨by omega, by omega⟩, ?_⟩⟩⟩)
    · obtain rfl : k = 143 := by omega
      exact h
    · have e := @z_hd_s μ k h3
      rw [if_pos r] at e
      rw [e]
      exact ih q
    · have e := @z_hd_s μ k h3
      rw [if_neg (by omega)] at e
      rw [e]
      exact ih q
  have := key 0 (by decide) (by decide)
  rw [z_hd_0] at this
  exact this
section LA
variable {a b c : Int} {μ : z_Mem} {d : Nat} {K : Int → z_Mem → Prop} {Kn : z_Mem → Prop}
theorem e_isFace (h : ¬ (0 ≤ a ∧ a < μ 6 2) → K 0 μ) (h' : 0 ≤ a ∧ a < μ 6 2 → K 1 μ) : z_ci m_X11_isFace [(2, 1), (0, a)] μ d K :=
  V_X11_isFace ⟨fun q => h (by omega), fun q => ⟨fun r => h (by omega), fun r => h' ⟨q, r⟩⟩⟩
theorem e_isEdge (h : ¬ (0 ≤ a ∧ a < μ 6 8) → K 0 μ) (h' : 0 ≤ a ∧ a < μ 6 8 → K 1 μ) : z_ci m_X11_isEdge [(2, 1), (0, a)] μ d K :=
  V_X11_isEdge ⟨fun q => h (by omega), fun q => ⟨fun r => h (by omega), fun r => h' ⟨q, r⟩⟩⟩
theorem e_isVertex (h : ¬ (0 ≤ a ∧ a < μ 6 11) → K 0 μ) (h' : 0 ≤ a ∧ a < μ 6 11 → K 1 μ) : z_ci m_X11_isVertex [(2, 1), (0, a)] μ d K :=
  V_X11_isVertex ⟨fun q => h (by omega), fun q => ⟨fun r => h (by omega), fun r => h' ⟨q, r⟩⟩⟩
theorem e_isShelf (h : ¬ (0 ≤ a ∧ a < 2) → K 0 μ) (h' : 0 ≤ a ∧ a < 2 → K 1 μ) : z_ci m_X11_isShelf [(2, 1), (0, a)] μ d K :=
  V_X11_isShelf ⟨fun q => h (by omega), fun q => ⟨fun r => h (by omega), fun r => h' ⟨q, r⟩⟩⟩
theorem e_in (h : ¬ (b ≤ a ∧ a ≤ c) → K 0 μ) (h' : b ≤ a ∧ a ≤ c → K 1 μ) : z_ci m_X12_in [(1, a), (1, b), (1, c)] μ d K :=
  V_X12_in ⟨fun q => h (by omega), fun q => ⟨fun r => h (by omega), fun r => h' ⟨q, r⟩⟩⟩
theorem e_truth (h : a = 0 → K 0 μ) (h' : ¬ a = 0 → K 1 μ) : z_ci m_X12_truth [(0, a)] μ d K :=
  V_X12_truth ⟨h, h'⟩
theorem e12_isEdge (hI : z_I ((μ 113 22) - 1)) (h : ¬ (0 ≤ a ∧ a < μ 113 22) → K 0 μ) (h' : 0 ≤ a ∧ a < μ 113 22 → K 1 μ) : z_ci m_X12_isEdge [(2, 113), (0, a)] μ (d + 1) K :=
  V_X12_isEdge ⟨hI, e_in (fun q => ⟨Or.inl rfl, h (by omega)⟩) (fun q => ⟨Or.inr rfl, h' (by omega)⟩)⟩
theorem e12_isFace (hI : z_I ((μ 113 21) - 1)) (h : ¬ (0 ≤ a ∧ a < μ 113 21) → K 0 μ) (h' : 0 ≤ a ∧ a < μ 113 21 → K 1 μ) : z_ci m_X12_isFace [(2, 113), (0, a)] μ (d + 1) K :=
  V_X12_isFace ⟨hI, e_in (fun q => ⟨Or.inl rfl, h (by omega)⟩) (fun q => ⟨Or.inr rfl, h' (by omega)⟩)⟩
theorem e_isRight (h : μ 113 10 = (-1) → K 1 μ) (h' : ¬ μ 113 10 = (-1) → K 0 μ) : z_ci m_X12_isRight [(2, 113)] μ d K := V_X12_isRight ⟨h', h⟩
/-! the tape -/
def z_by (a v : Int) : Int := (Int.bmod (a % 4294967296 / 2 ^ v.toNat) 4294967296) % 256
theorem e_put1 {v : Int} (hv : 0 ≤ v ∧ v < 32) (ht : 0 ≤ μ 1 1 ∧ μ 1 1 < 200) (h : z_rn m_X11_putFour 3 [some (2, 1), some (0, a), some (0, v + (-8))] (z_st (z_st μ 2 (μ 1 1) (z_by a v)) 1 1 (μ 1 1 + 1)) d Kn) : z_rn m_X11_putFour 3 [some (2, 1), some (0, a), some (0, v)] μ d Kn := by
  have e : ∀ x, z_st μ 2 (μ 1 1) x 1 1 = μ 1 1 := fun x => z_st_ne (by decide)
  refine V_X11_putFour_3 ⟨fun q => by omega, fun _ => ⟨fun q => by omega, fun _ => ⟨hv, ht, ?_, ⟨by omega, by omega⟩, ?_⟩⟩⟩
  · rw [e]
    exact ⟨by omega, by omega⟩
  · rw [e]
    exact h
/-- the tape with four bytes more -/
def z_four (μ : z_Mem) (a : Int) (μ' : z_Mem) : Prop := μ' 1 1 = μ 1 1 + 4 ∧ (∀ o i, ¬ (o = 1 ∧ i = 1) → o ≠ 2 → μ' o i = μ o i) ∧ (∀ i, i < μ 1 1 ∨ μ 1 1 + 4 ≤ i → μ' 2 i = μ 2 i) ∧ μ' 2 (μ 1 1) = z_by a 24 ∧ μ' 2 (μ 1 1 + 1) = z_by a 16 ∧ μ' 2 (μ 1 1 + 2) = z_by a 8 ∧ μ' 2 (μ 1 1 + 3) = z_by a 0
theorem e_putFour (ht : 0 ≤ μ 1 1 ∧ μ 1 1 + 4 ≤ 200) (h : ∀ μ', z_four μ a μ' → Kn μ') : z_cn m_X11_putFour [(2, 1), (0, a)] μ d Kn := by
  refine V_X11_putFour (e_put1 (by decide) (by omega) ?_)
  refine e_put1 (by decide) (by rw [z_st_eq]; omega) ?_
  refine e_put1 (by decide) (by rw [z_st_eq, z_st_eq]; omega) ?_
  refine e_put1 (by decide) (by rw [z_st_eq, z_st_eq, z_st_eq]; omega) ?_
  refine V_X11_putFour_3 ⟨fun _ => ?_, fun q => absurd q (by decide)⟩
  apply h
  have n2 : ∀ (m : z_Mem) (x i : Int), z_st m 1 1 x 2 i = m 2 i := fun m x i => z_st_ne (by decide)
  have w1 : ∀ (m : z_Mem) (i x : Int), z_st m 1 1 i 1 1 = i := fun m i x => z_st_eq ..
  have ni : ∀ (m : z_Mem) (i j x : Int), j ≠ i → z_st m 2 i x 2 j = m 2 j := fun m i j x q => z_st_ni q
  have nw : ∀ (m : z_Mem) (i x : Int), z_st m 2 i x 1 1 = m 1 1 := fun m i x => z_st_ne (by decide)
  have eq2 : ∀ (m : z_Mem) (i x : Int), z_st m 2 i x 2 i = x := fun m i x => z_st_eq ..
  refine ⟨?_, ?_, ?_, ?_, ?_, ?_, ?_⟩
  · simp only [z_st_eq]
    omega
  · intro o i h1 h2
    have g1 : ∀ (m : z_Mem) (x : Int), z_st m 1 1 x o i = m o i := fun m x => by
      by_cases q : o = 1
      · subst q
        exact z_st_ni (fun q => h1 ⟨rfl, q⟩)
      · exact z_st_ne q
    have g2 : ∀ (m : z_Mem) (j x : Int), z_st m 2 j x o i = m o i := fun m j x => z_st_ne h2
    simp only [g1, g2]
  · intro i hi
    simp only [n2, z_st_eq]
    rw [ni _ _ _ _ (by omega), n2, ni _ _ _ _ (by omega), n2, ni _ _ _ _ (by omega), n2, ni _ _ _ _ (by omega)]
  · simp only [n2, z_st_eq]
    rw [ni _ _ _ _ (by omega), n2, ni _ _ _ _ (by omega), n2, ni _ _ _ _ (by omega), n2, eq2]
  · simp only [n2, z_st_eq]
    rw [ni _ _ _ _ (by omega), n2, ni _ _ _ _ (by omega), n2, eq2]
    rfl
  · simp only [n2, z_st_eq]
    rw [ni _ _ _ _ (by omega), n2, show μ 1 1 + 2 = μ 1 1 + 1 + 1 by omega, eq2]
    rfl
  · simp only [n2, z_st_eq]
    rw [show μ 1 1 + 3 = μ 1 1 + 1 + 1 + 1 by omega, eq2]
    rfl
theorem e_feed {a b c e f : Int} (ht : 0 ≤ μ 1 1 ∧ μ 1 1 ≤ 200) (h0 : 200 < μ 1 1 + 20 → K (-1) μ) (h : ∀ m1 m2 m3 m4 m5, z_four μ a m1 → z_four m1 b m2 → z_four m2 c m3 → z_four m3 e m4 → z_four m4 f m5 → μ 1 1 + 20 ≤ 200 → K (m5 1 1) m5) : z_ci m_X11_feed [(2, 1), (0, a), (0, b), (0, c), (0, e), (0, f)] μ (d + 1) K := by
  refine V_X11_feed ⟨⟨by omega, by omega⟩, fun q => ?_, h0⟩
  refine e_putFour (by omega) (fun m1 h1 => ?_)
  refine e_putFour (by have := h1.1; omega) (fun m2 h2 => ?_)
  refine e_putFour (by have := h1.1; have := h2.1; omega) (fun m3 h3 => ?_)
  refine e_putFour (by have := h1.1; have := h2.1; have := h3.1; omega) (fun m4 h4 => ?_)
  refine e_putFour (by have := h1.1; have := h2.1; have := h3.1; have := h4.1; omega) (fun m5 h5 => ?_)
  exact h m1 m2 m3 m4 m5 h1 h2 h3 h4 h5 q
/-! the reference's tape -/
def z_bs (a v : Int) : Int := Int.bmod (a / 2 ^ v.toNat) 256
theorem z_bs_r (a v : Int) : -128 ≤ z_bs a v ∧ z_bs a v ≤ 127 := by
  have h1 := Int.le_bmod (x := a / 2 ^ v.toNat) (m := 256) (by decide)
  have h2 := Int.bmod_lt (x := a / 2 ^ v.toNat) (m := 256) (by decide)
  unfold z_bs
  omega
theorem e12_put1 {v : Int} (hv : 0 ≤ v ∧ v < 32) (ht : 0 ≤ μ 113 8 ∧ μ 113 8 < 200) (h : z_rn m_X12_puts 3 [some (2, 113), some (0, a), some (0, v + (-8))] (z_st (z_st μ 120 (μ 113 8) (z_bs a v)) 113 8 (μ 113 8 + 1)) d Kn) : z_rn m_X12_puts 3 [some (2, 113), some (0, a), some (0, v)] μ d Kn := by
  have e : ∀ x, z_st μ 120 (μ 113 8) x 113 8 = μ 113 8 := fun x => z_st_ne (by decide)
  refine V_X12_puts_3 ⟨fun q => by omega, fun _ => ⟨hv, ht, z_bs_r a v, ?_, ⟨by omega, by omega⟩, ?_⟩⟩
  · rw [e]
    exact ⟨by omega, by omega⟩
  · rw [e]
    exact h
def z_four' (μ : z_Mem) (a : Int) (μ' : z_Mem) : Prop := μ' 113 8 = μ 113 8 + 4 ∧ (∀ o i, ¬ (o = 113 ∧ i = 8) → o ≠ 120 → μ' o i = μ o i) ∧ (∀ i, i < μ 113 8 ∨ μ 113 8 + 4 ≤ i → μ' 120 i = μ 120 i) ∧ μ' 120 (μ 113 8) = z_bs a 24 ∧ μ' 120 (μ 113 8 + 1) = z_bs a 16 ∧ μ' 120 (μ 113 8 + 2) = z_bs a 8 ∧ μ' 120 (μ 113 8 + 3) = z_bs a 0
theorem e12_puts (ht : 0 ≤ μ 113 8 ∧ μ 113 8 + 4 ≤ 200) (h : ∀ μ', z_four' μ a μ' → Kn μ') : z_cn m_X12_puts [(2, 113), (0, a)] μ d Kn := by
  refine V_X12_puts (e12_put1 (by decide) (by omega) ?_)
  refine e12_put1 (by decide) (by rw [z_st_eq]; omega) ?_
  refine e12_put1 (by decide) (by rw [z_st_eq, z_st_eq]; omega) ?_
  refine e12_put1 (by decide) (by rw [z_st_eq, z_st_eq, z_st_eq]; omega) ?_
  refine V_X12_puts_3 ⟨fun _ => ?_, fun q => absurd q (by decide)⟩
  apply h
  have n2 : ∀ (m : z_Mem) (x i : Int), z_st m 113 8 x 120 i = m 120 i := fun m x i => z_st_ne (by decide)
  have ni : ∀ (m : z_Mem) (i j x : Int), j ≠ i → z_st m 120 i x 120 j = m 120 j := fun m i j x q => z_st_ni q
  have eq2 : ∀ (m : z_Mem) (i x : Int), z_st m 120 i x 120 i = x := fun m i x => z_st_eq ..
  refine ⟨?_, ?_, ?_, ?_, ?_, ?_, ?_⟩
  · simp only [z_st_eq]
    omega
  · intro o i h1 h2
    have g1 : ∀ (m : z_Mem) (x : Int), z_st m 113 8 x o i = m o i := fun m x => by
      by_cases q : o = 113
      · subst q
        exact z_st_ni (fun q => h1 ⟨rfl, q⟩)
      · exact z_st_ne q
    have g2 : ∀ (m : z_Mem) (j x : Int), z_st m 120 j x o i = m o i := fun m j x => z_st_ne h2
    simp only [g1, g2]
  · intro i hi
    simp only [n2, z_st_eq]
    rw [ni _ _ _ _ (by omega), n2, ni _ _ _ _ (by omega), n2, ni _ _ _ _ (by omega), n2, ni _ _ _ _ (by omega)]
  · simp only [n2, z_st_eq]
    rw [ni _ _ _ _ (by omega), n2, ni _ _ _ _ (by omega), n2, ni _ _ _ _ (by omega), n2, eq2]
  · simp only [n2, z_st_eq]
    rw [ni _ _ _ _ (by omega), n2, ni _ _ _ _ (by omega), n2, eq2]
    rfl
  · simp only [n2, z_st_eq]
    rw [ni _ _ _ _ (by omega), n2, show μ 113 8 + 2 = μ 113 8 + 1 + 1 by omega, eq2]
    rfl
  · simp only [n2, z_st_eq]
    rw [show μ 113 8 + 3 = μ 113 8 + 1 + 1 + 1 by omega, eq2]
    rfl
theorem e12_feed {a b c e f : Int} (ht : 0 ≤ μ 113 8 ∧ μ 113 8 ≤ 200) (h0 : 200 < μ 113 8 + 20 → K (-1) μ) (h : ∀ m1 m2 m3 m4 m5, z_four' μ a m1 → z_four' m1 b m2 → z_four' m2 c m3 → z_four' m3 e m4 → z_four' m4 f m5 → μ 113 8 + 20 ≤ 200 → K (m5 113 8) m5) : z_ci m_X12_feed [(2, 113), (0, a), (0, b), (0, c), (0, e), (0, f)] μ (d + 1) K := by
  refine V_X12_feed ⟨⟨by omega, by omega⟩, fun q => ?_, h0⟩
  refine e12_puts (by omega) (fun m1 h1 => ?_)
  refine e12_puts (by have := h1.1; omega) (fun m2 h2 => ?_)
  refine e12_puts (by have := h1.1; have := h2.1; omega) (fun m3 h3 => ?_)
  refine e12_puts (by have := h1.1; have := h2.1; have := h3.1; omega) (fun m4 h4 => ?_)
  refine e12_puts (by have := h1.1; have := h2.1; have := h3.1; have := h4.1; omega) (fun m5 h5 => ?_)
  exact h m1 m2 m3 m4 m5 h1 h2 h3 h4 h5 q
end LA

/-! the reference's cube beside -/
theorem zS_3 {b : Int} (h : 0 ≤ b ∧ b < 6) : z_S 3 b = zst b 0 := by
  rcases (by omega : b = 0 ∨ b = 1 ∨ b = 2 ∨ b = 3 ∨ b = 4 ∨ b = 5) with rfl | rfl | rfl | rfl | rfl | rfl <;> decide +kernel
theorem zS_4 {b : Int} (h : 0 ≤ b ∧ b < 6) : z_S 4 b = zst b 1 := by
  rcases (by omega : b = 0 ∨ b = 1 ∨ b = 2 ∨ b = 3 ∨ b = 4 ∨ b = 5) with rfl | rfl | rfl | rfl | rfl | rfl <;> decide +kernel
theorem zS_5 {b : Int} (h : 0 ≤ b ∧ b < 6) : z_S 5 b = zst b 2 := by
  rcases (by omega : b = 0 ∨ b = 1 ∨ b = 2 ∨ b = 3 ∨ b = 4 ∨ b = 5) with rfl | rfl | rfl | rfl | rfl | rfl <;> decide +kernel
theorem zst_n (c : Int) : zst (-1) c = 0 := by
  unfold zst
  rw [if_pos rfl]
section BB
variable {a b c n : Int} {s : Int → Int} {μ : z_Mem} {d : Nat} {K : Int → z_Mem → Prop} {Kn : z_Mem → Prop}
/-- the row of now tells n cubes as in s -/
def zNs (m : z_Mem) (n : Int) (s : Int → Int) : Prop := m 114 0 = n ∧ 0 ≤ n ∧ n ≤ 7 ∧ (∀ i, 0 ≤ i → i < 3 * n → m 114 (1 + i) = s i) ∧ z_c6 s (3 * n)
theorem e12_cubeAt (h : zNs μ n s) (ha : 0 ≤ a ∧ a < n) (hb : -1 ≤ b ∧ b < 6) (hc : -1 ≤ c ∧ c < 6) (hk : K (zk s n a b c) μ) : z_ci m_X12_cubeAt [(2, 113), (0, a), (0, b), (0, c)] μ d K := by
  obtain ⟨hN, hn0, hn7, hs, h6⟩ := h
  have x0 : ∀ k, 0 ≤ k → k < n → μ 114 (1 + (3 * k)) = s (3 * k + 0) := fun k k1 k2 => by rw [← hs (3 * k + 0) (by omega) (by omega), show 1 + (3 * k) = 1 + (3 * k + 0) by omega]
  have x1 : ∀ k, 0 ≤ k → k < n → μ 114 ((1 + (3 * k)) + 1) = s (3 * k + 1) := fun k k1 k2 => by rw [← hs (3 * k + 1) (by omega) (by omega), show 1 + (3 * k) + 1 = 1 + (3 * k + 1) by omega]
  have x2 : ∀ k, 0 ≤ k → k < n → μ 114 ((1 + (3 * k)) + 2) = s (3 * k + 2) := fun k k1 k2 => by rw [← hs (3 * k + 2) (by omega) (by omega), show 1 + (3 * k) + 2 = 1 + (3 * k + 2) by omega]
  have r0 := h6 (3 * a + 0) (by omega) (by omega)
  have r1 := h6 (3 * a + 1) (by omega) (by omega)
  have r2 := h6 (3 * a + 2) (by omega) (by omega)
  have s0 := zst_r b 0
  have s1 := zst_r c 0
  have s2 := zst_r b 1
  have s3 := zst_r c 1
  have s4 := zst_r b 2
  have s5 := zst_r c 2
  unfold zk at hk
  have loop : ∀ X Y Z, X = s (3 * a + 0) + (zst b 0 + zst c 0) → Y = s (3 * a + 1) + (zst b 1 + zst c 1) → Z = s (3 * a + 2) + (zst b 2 + zst c 2) → z_ri m_X12_cubeAt 130 [some (2, 113), none, none, none, some (0, X), some (0, Y), some (0, Z), none] μ d K := fun X Y Z hX hY hZ => by
    have key : ∀ k, 0 ≤ k → k ≤ n → zr (fun q => !zat s q a b c) n k = zr (fun q => !zat s q a b c) n 0 → z_ri m_X12_cubeAt 133 [some (2, 113), none, none, none, some (0, X), some (0, Y), some (0, Z), some (0, k)] μ d K := by
      refine z_up (fun k h1 h2 ih he => ?_)
      have no : k < n → zat s k a b c = false → z_I (k + 1) ∧ z_ri m_X12_cubeAt 133 [some (2, 113), none, none, none, some (0, X), some (0, Y), some (0, Z), some (0, k + 1)] μ d K := fun q r => ⟨⟨by omega, by omega⟩, ih q (by rw [← he]; exact (zr_y q (by show (!zat s k a b c) = true; rw [r]; rfl)).symm)⟩
      refine V_X12_cubeAt_133 ?_
      rw [hN]
      refine ⟨fun q1 => ?_, fun q2 => ?_⟩
      · have e : zr (fun q => !zat s q a b c) n 0 = k := by rw [← he]; exact zr_no (by omega)
        rw [e, if_neg (by omega)] at hk
        exact hk
      · rw [x0 k h1 q2, x1 k h1 q2, x2 k h1 q2, hX, hY, hZ] at *
        refine ⟨⟨by omega, by omega⟩, ⟨by omega, by omega⟩, ⟨by omega, by omega⟩, fun r1 => no q2 (by unfold zat; exact decide_eq_false (fun x => r1 x.1)), fun r1 => ⟨⟨by omega, by omega⟩, ⟨by omega, by omega⟩, ⟨by omega, by omega⟩, ⟨by omega, by omega⟩, fun r2 => no q2 (by unfold zat; exact decide_eq_false (fun x => r2 x.2.1)), fun r2 => ⟨⟨by omega, by omega⟩, ⟨by omega, by omega⟩, ⟨by omega, by omega⟩, ⟨by omega, by omega⟩, fun r3 => no q2 (by unfold zat; exact decide_eq_false (fun x => r3 x.2.2)), fun r3 => ?_⟩⟩⟩
        have hz : zat s k a b c = true := by unfold zat; exact decide_eq_true ⟨r1, r2, r3⟩
        have e : zr (fun q => !zat s q a b c) n 0 = k := by rw [← he]; exact zr_no (by show ¬ (k < n ∧ (!zat s k a b c) = true); rw [hz]; simp)
        rw [e, if_pos q2] at hk
        exact hk
    exact V_X12_cubeAt_130 (key 0 (by omega) (by omega) rfl)
  have n0 := zst_n 0
  have n1 := zst_n 1
  have n2 := zst_n 2
  have st2 : ∀ X Y, X = s (3 * a + 0) + (zst b 0 + zst c 0) → Y = s (3 * a + 1) + (zst b 1 + zst c 1) → z_ri m_X12_cubeAt 86 [some (2, 113), some (0, a), some (0, b), some (0, c), some (0, X), some (0, Y), none, none] μ d K := fun X Y hX hY => by
    refine V_X12_cubeAt_86 ?_
    rw [x2 a ha.1 ha.2]
    refine ⟨⟨by omega, by omega⟩, ⟨by omega, by omega⟩, ⟨by omega, by omega⟩, ⟨by omega, by omega⟩, fun q1 => ?_, fun q1 => ?_⟩
    · rw [zS_5 (by omega)]
      refine ⟨⟨by omega, by omega⟩, ⟨by omega, by omega⟩, fun q2 => ?_, fun q2 => ?_⟩
      · rw [zS_5 (by omega)]
        exact ⟨⟨by omega, by omega⟩, ⟨by omega, by omega⟩, loop X Y _ hX hY (by omega)⟩
      · subst q2
        exact ⟨⟨by omega, by omega⟩, loop X Y _ hX hY (by omega)⟩
    · subst q1
      refine ⟨⟨by omega, by omega⟩, fun q2 => ?_, fun q2 => ?_⟩
      · rw [zS_5 (by omega)]
        exact ⟨⟨by omega, by omega⟩, ⟨by omega, by omega⟩, loop X Y _ hX hY (by omega)⟩
      · subst q2
        exact ⟨⟨by omega, by omega⟩, loop X Y _ hX hY (by omega)⟩
  have st1 : ∀ X, X = s (3 * a + 0) + (zst b 0 + zst c 0) → z_ri m_X12_cubeAt 42 [some (2, 113), some (0, a), some (0, b), some (0, c), some (0, X), none, none, none] μ d K := fun X hX => by
    refine V_X12_cubeAt_42 ?_
    rw [x1 a ha.1 ha.2]
    refine ⟨⟨by omega, by omega⟩, ⟨by omega, by omega⟩, ⟨by omega, by omega⟩, ⟨by omega, by omega⟩, fun q1 => ?_, fun q1 => ?_⟩
    · rw [zS_4 (by omega)]
      refine ⟨⟨by omega, by omega⟩, ⟨by omega, by omega⟩, fun q2 => ?_, fun q2 => ?_⟩
      · rw [zS_4 (by omega)]
        exact ⟨⟨by omega, by omega⟩, ⟨by omega, by omega⟩, st2 X _ hX (by omega)⟩
      · subst q2
        exact ⟨⟨by omega, by omega⟩, st2 X _ hX (by omega)⟩
    · subst q1
      refine ⟨⟨by omega, by omega⟩, fun q2 => ?_, fun q2 => ?_⟩
      · rw [zS_4 (by omega)]
        exact ⟨⟨by omega, by omega⟩, ⟨by omega, by omega⟩, st2 X _ hX (by omega)⟩
      · subst q2
        exact ⟨⟨by omega, by omega⟩, st2 X _ hX (by omega)⟩
  refine V_X12_cubeAt ?_
  rw [x0 a ha.1 ha.2]
  refine ⟨⟨by omega, by omega⟩, ⟨by omega, by omega⟩, ⟨by omega, by omega⟩, fun q1 => ?_, fun q1 => ?_⟩
  · rw [zS_3 (by omega)]
    refine ⟨⟨by omega, by omega⟩, ⟨by omega, by omega⟩, fun q2 => ?_, fun q2 => ?_⟩
    · rw [zS_3 (by omega)]
      exact ⟨⟨by omega, by omega⟩, ⟨by omega, by omega⟩, st1 _ (by omega)⟩
    · subst q2
      exact ⟨⟨by omega, by omega⟩, st1 _ (by omega)⟩
  · subst q1
    refine ⟨⟨by omega, by omega⟩, fun q2 => ?_, fun q2 => ?_⟩
    · rw [zS_3 (by omega)]
      exact ⟨⟨by omega, by omega⟩, ⟨by omega, by omega⟩, st1 _ (by omega)⟩
    · subst q2
      exact ⟨⟨by omega, by omega⟩, st1 _ (by omega)⟩
end BB

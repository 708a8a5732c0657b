/-! the cube beside, in one direction and in another one (-1: in none) -/
def zst (d c : Int) : Int := if d = -1 then 0 else if d / 2 = c then (if d % 2 = 0 then 1 else -1) else 0
theorem zst_r (d c : Int) : -1 ≤ zst d c ∧ zst d c ≤ 1 := by
  unfold zst
  split
  · omega
  · split
    · split <;> omega
    · omega
def zat (s : Int → Int) (q k d e : Int) : Bool := decide (s (3 * q + 0) = s (3 * k + 0) + (zst d 0 + zst e 0) ∧ s (3 * q + 1) = s (3 * k + 1) + (zst d 1 + zst e 1) ∧ s (3 * q + 2) = s (3 * k + 2) + (zst d 2 + zst e 2))
def zk (s : Int → Int) (n k d e : Int) : Int := if zr (fun q => !zat s q k d e) n 0 < n then zr (fun q => !zat s q k d e) n 0 else -1
section BA
variable {a b c e n : Int} {μ : z_Mem} {d : Nat} {K : Int → z_Mem → Prop} {Kn : z_Mem → Prop}
theorem e_step (h : K (zst a b) μ) : z_ci m_X9_step [(0, a), (0, b)] μ d K := by
  unfold zst at h
  refine V_X9_step ⟨fun q1 => ?_, fun q2 => ⟨fun q3 => ⟨fun q4 => ?_, fun q5 => ?_⟩, fun q6 => ?_⟩⟩
  · rw [if_pos q1] at h
    exact h
  · rw [if_neg q2, if_pos q3, if_neg q4] at h
    exact h
  · rw [if_neg q2, if_pos q3, if_pos q5] at h
    exact h
  · rw [if_neg q2, if_neg q6] at h
    exact h
theorem e_isAway (ha : 0 ≤ a ∧ a < 7) (hb : 0 ≤ b ∧ b < 7) (hc : 0 ≤ c ∧ c < 3) (hf : -2 ≤ e ∧ e ≤ 2) {m : Int} (h6 : z_c6 (μ 7) m) (hm : 3 * a + 3 ≤ m ∧ 3 * b + 3 ≤ m) (hy : μ 7 (3 * b + c) = μ 7 (3 * a + c) + e → K 1 μ) (hn : ¬ μ 7 (3 * b + c) = μ 7 (3 * a + c) + e → K 0 μ) : z_ci m_X9_isAway [(2, 6), (0, a), (0, b), (0, c), (0, e)] μ d K := by
  have h1 := h6 (3 * a + c) (by omega) (by omega)
  have h2 := h6 (3 * b + c) (by omega) (by omega)
  refine V_X9_isAway ?_
  refine ⟨⟨by omega, by omega⟩, ⟨by omega, by omega⟩, ⟨by omega, by omega⟩, ⟨by omega, by omega⟩, ⟨by omega, by omega⟩, ⟨by omega, by omega⟩, ⟨by omega, by omega⟩, hn, hy⟩
theorem e_beside (hn : μ 6 0 = n) (hn7 : n ≤ 7) (ha : 0 ≤ a ∧ a < n) (h6 : z_c6 (μ 7) (3 * n)) (h : K (zk (μ 7) n a b c) μ) : z_ci m_X9_cubeBeside [(2, 6), (0, a), (0, b), (0, c)] μ (d + 1) K := by
  unfold zk at h
  have key : ∀ k, 0 ≤ k → k ≤ n → zr (fun q => !zat (μ 7) q a b c) n k = zr (fun q => !zat (μ 7) q a b c) n 0 → z_ri m_X9_cubeBeside 3 [some (2, 6), some (0, a), some (0, b), some (0, c), some (0, k)] μ (d + 1) K := by
    refine z_up (fun k h1 h2 ih he => ?_)
    have no : k < n → zat (μ 7) k a b c = false → z_I (k + 1) ∧ z_ri m_X9_cubeBeside 3 [some (2, 6), some (0, a), some (0, b), some (0, c), some (0, k + 1)] μ (d + 1) K := fun q r => ⟨⟨by omega, by omega⟩, ih q (by rw [← he]; exact (zr_y q (by show (!zat (μ 7) k a b c) = true; rw [r]; rfl)).symm)⟩
    refine V_X9_cubeBeside_3 ?_
    rw [hn]
    refine ⟨fun q1 => ?_, fun q2 => ?_⟩
    · have e : zr (fun q => !zat (μ 7) q a b c) n 0 = k := by rw [← he]; exact zr_no (by omega)
      rw [e, if_neg (by omega)] at h
      exact h
    · have s0 := zst_r b 0
      have s1 := zst_r c 0
      have s2 := zst_r b 1
      have s3 := zst_r c 1
      have s4 := zst_r b 2
      have s5 := zst_r c 2
      refine e_step (e_step ⟨⟨by omega, by omega⟩, e_isAway (by omega) (by omega) (by omega) (by omega) h6 (by omega) (fun r1 => zy1' ?_) (fun r1 => zy0' (no q2 (by unfold zat; exact decide_eq_false (fun x => r1 x.1))))⟩)
      refine e_step (e_step ⟨⟨by omega, by omega⟩, e_isAway (by omega) (by omega) (by omega) (by omega) h6 (by omega) (fun r2 => zy1' ?_) (fun r2 => zy0' (no q2 (by unfold zat; exact decide_eq_false (fun x => r2 x.2.1))))⟩)
      refine e_step (e_step ⟨⟨by omega, by omega⟩, e_isAway (by omega) (by omega) (by omega) (by omega) h6 (by omega) (fun r3 => zy1' ?_) (fun r3 => zy0' (no q2 (by unfold zat; exact decide_eq_false (fun x => r3 x.2.2))))⟩)
      have hz : zat (μ 7) k a b c = true := by unfold zat; exact decide_eq_true ⟨r1, r2, r3⟩
      have e : zr (fun q => !zat (μ 7) q a b c) n 0 = k := by rw [← he]; exact zr_no (by show ¬ (k < n ∧ (!zat (μ 7) k a b c) = true); rw [hz]; simp)
      rw [e, if_pos q2] at h
      exact h
  exact V_X9_cubeBeside (key 0 (by omega) (by omega) rfl)
end BA

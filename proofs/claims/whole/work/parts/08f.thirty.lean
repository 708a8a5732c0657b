/-! at most 30 FACES: each cube but the first touches one ahead of it -/
theorem zk_no {s : Int → Int} {n k d e : Int} (hn : 0 ≤ n) : zk s n k d e = -1 ↔ ∀ q, 0 ≤ q → q < n → zat s q k d e = false := by
  unfold zk
  have key : ∀ p, 0 ≤ p → p ≤ n → (zr (fun q => !zat s q k d e) n p < n ↔ ∃ q, p ≤ q ∧ q < n ∧ zat s q k d e = true) := by
    refine z_up (fun p h1 h2 ih => ?_)
    by_cases h : p < n ∧ (!zat s p k d e) = true
    · rw [zr_y h.1 h.2, ih h.1]
      constructor
      · rintro ⟨q, a, b, c⟩
        exact ⟨q, by omega, b, c⟩
      · rintro ⟨q, a, b, c⟩
        refine ⟨q, ?_, b, c⟩
        rcases (by omega : p = q ∨ p + 1 ≤ q) with r | r
        · subst r
          have := h.2
          rw [c] at this
          cases this
        · exact r
    · rw [zr_no h]
      constructor
      · intro q
        refine ⟨p, Int.le_refl p, q, ?_⟩
        cases hz : zat s p k d e with
        | true => rfl
        | false => exact absurd ⟨q, by show (!zat s p k d e) = true; rw [hz]; rfl⟩ h
      · rintro ⟨q, a, b, _⟩
        omega
  have k0 := key 0 (by omega) hn
  have r0 := (zr_le (P := fun q => !zat s q k d e) (L := n) (p := 0) hn).1
  split
  · rename_i h
    obtain ⟨q, a, b, c⟩ := k0.mp h
    constructor
    · intro h'
      omega
    · intro h'
      rw [h' q a b] at c
      cases c
  · rename_i h
    constructor
    · intro _ q a b
      cases hz : zat s q k d e with
      | false => rfl
      | true => exact absurd (k0.mpr ⟨q, a, b, hz⟩) h
    · intro _
      rfl
theorem zN_add {P : Int → Bool} (n k : Nat) : zN (n + k) P = zN n P + zN k (fun i => P (n + i)) := by
  induction k with
  | zero =>
    show zN n P = zN n P + 0
    omega
  | succ k ih =>
    rw [show n + (k + 1) = n + k + 1 by omega, zN_s, ih, zN_s]
    have e : ((n + k : Nat) : Int) = (n : Int) + (k : Int) := by omega
    rw [e]
    omega
/-- two cubes with a common side: the direction -/
theorem z_touch {s : Int → Int} {a b : Int} (h : z_di s a b = 1) : ∃ d, 0 ≤ d ∧ d < 6 ∧ zat s a b d (-1) = true ∧ ∃ e, 0 ≤ e ∧ e < 6 ∧ zat s b a e (-1) = true := by
  have hz : ∀ c, zst (-1) c = 0 := zst_n
  have w : ∀ d e, (s (3 * a + 0) = s (3 * b + 0) + (zst d 0 + zst (-1) 0) ∧ s (3 * a + 1) = s (3 * b + 1) + (zst d 1 + zst (-1) 1) ∧ s (3 * a + 2) = s (3 * b + 2) + (zst d 2 + zst (-1) 2)) → (s (3 * b + 0) = s (3 * a + 0) + (zst e 0 + zst (-1) 0) ∧ s (3 * b + 1) = s (3 * a + 1) + (zst e 1 + zst (-1) 1) ∧ s (3 * b + 2) = s (3 * a + 2) + (zst e 2 + zst (-1) 2)) → zat s a b d (-1) = true ∧ zat s b a e (-1) = true := fun d e h1 h2 => ⟨by unfold zat; exact decide_eq_true h1, by unfold zat; exact decide_eq_true h2⟩
  have t0 : zst 0 0 = 1 ∧ zst 0 1 = 0 ∧ zst 0 2 = 0 := by decide
  have t1 : zst 1 0 = -1 ∧ zst 1 1 = 0 ∧ zst 1 2 = 0 := by decide
  have t2 : zst 2 0 = 0 ∧ zst 2 1 = 1 ∧ zst 2 2 = 0 := by decide
  have t3 : zst 3 0 = 0 ∧ zst 3 1 = -1 ∧ zst 3 2 = 0 := by decide
  have t4 : zst 4 0 = 0 ∧ zst 4 1 = 0 ∧ zst 4 2 = 1 := by decide
  have t5 : zst 5 0 = 0 ∧ zst 5 1 = 0 ∧ zst 5 2 = -1 := by decide
  have m0 := hz 0
  have m1 := hz 1
  have m2 := hz 2
  unfold z_di z_ap zab at h
  have cs : (s (3 * a + 0) = s (3 * b + 0) + 1 ∧ s (3 * a + 1) = s (3 * b + 1) ∧ s (3 * a + 2) = s (3 * b + 2)) ∨ (s (3 * a + 0) = s (3 * b + 0) - 1 ∧ s (3 * a + 1) = s (3 * b + 1) ∧ s (3 * a + 2) = s (3 * b + 2)) ∨ (s (3 * a + 0) = s (3 * b + 0) ∧ s (3 * a + 1) = s (3 * b + 1) + 1 ∧ s (3 * a + 2) = s (3 * b + 2)) ∨ (s (3 * a + 0) = s (3 * b + 0) ∧ s (3 * a + 1) = s (3 * b + 1) - 1 ∧ s (3 * a + 2) = s (3 * b + 2)) ∨ (s (3 * a + 0) = s (3 * b + 0) ∧ s (3 * a + 1) = s (3 * b + 1) ∧ s (3 * a + 2) = s (3 * b + 2) + 1) ∨ (s (3 * a + 0) = s (3 * b + 0) ∧ s (3 * a + 1) = s (3 * b + 1) ∧ s (3 * a + 2) = s (3 * b + 2) - 1) := by omega
  rcases cs with q | q | q | q | q | q
  · obtain ⟨x, y⟩ := w 0 1 (by omega) (by omega)
    exact ⟨0, by decide, by decide, x, 1, by decide, by decide, y⟩
  · obtain ⟨x, y⟩ := w 1 0 (by omega) (by omega)
    exact ⟨1, by decide, by decide, x, 0, by decide, by decide, y⟩
  · obtain ⟨x, y⟩ := w 2 3 (by omega) (by omega)
    exact ⟨2, by decide, by decide, x, 3, by decide, by decide, y⟩
  · obtain ⟨x, y⟩ := w 3 2 (by omega) (by omega)
    exact ⟨3, by decide, by decide, x, 2, by decide, by decide, y⟩
  · obtain ⟨x, y⟩ := w 4 5 (by omega) (by omega)
    exact ⟨4, by decide, by decide, x, 5, by decide, by decide, y⟩
  · obtain ⟨x, y⟩ := w 5 4 (by omega) (by omega)
    exact ⟨5, by decide, by decide, x, 4, by decide, by decide, y⟩

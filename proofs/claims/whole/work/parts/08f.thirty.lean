/-! at most 30 FACES: each cube but the first touches one ahead of it -/
theorem zk_no {s : Int → Int} {n k d e : Int} (hn : 0 ≤ n) : zk s n k d e = -1 ↔ ∀ q, 0 ≤ q → q < n → zat s q k d e = false := by
  unfold zk
  have key : ∀ p, 0 ≤ p → p ≤ n → (zr (fun q => !zat s q k d e) n p < n ↔ ∃ q, p ≤ q ∧ q < n ∧ zat s q k d e = true) := by
    refine z_up (fun p h1 h2 ih => ?_)
    by_cases h : p < n ∧ (!zat s p k d e) = true
    · rw [zr_y h.1 h.2, ih h.1]
      constructor
      · rintro ⟨q, a, b, c⟩
        exact ⟨q, by omega, b, c⟩
      · rintro ⟨q, a, b, c⟩
        refine ⟨q, ?_, b, c⟩
        rcases (by omega : p = q ∨ p + 1 ≤ q) with r | r
        · subst r
          have := h.2
          rw [c] at this
          cases this
        · exact r
    · rw [zr_no h]
      constructor
      · intro q
        refine ⟨p, Int.le_refl p, q, ?_⟩
        cases hz : zat s p k d e with
        | true => rfl
        | false => exact absurd ⟨q, by show (!zat s p k d e) = true; rw [hz]; rfl⟩ h
      · rintro ⟨q, a, b, _⟩
        omega
  have k0 := key 0 (by omega) hn
  have r0 := (zr_le (P := fun q => !zat s q k d e) (L := n) (p := 0) hn).1
  split
  · rename_i h
    obtain ⟨q, a, b, c⟩ := k0.mp h
    constructor
    · intro h'
      omega
    · intro h'
      rw [h' q a b] at c
      cases c
  · rename_i h
    constructor
    · intro _ q a b
      cases hz : zat s q k d e with
      | false => rfl
      | true => exact absurd (k0.mpr ⟨q, a, b, hz⟩) h
    · intro _
      rfl

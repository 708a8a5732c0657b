/-! THE OUTLINE: one row ahead of the other -/
def zlt (A B : Int → Int) : Nat → Int → Bool
  | 0, _ => false
  | k + 1, i => if A i = B i then zlt A B k (i + 1) else decide (A i < B i)
section LS
variable {n : Nat} {A B : Int → Int} {μ : z_Mem} {d : Nat} {K : Int → z_Mem → Prop}
theorem e12_isLess (hn : n ≤ 30) (e21 : μ 113 21 = n) (hA : ∀ j : Int, 0 ≤ j → j < n → μ 145 j = A j) (hB : ∀ j : Int, 0 ≤ j → j < n → μ 146 j = B j) (hk : K (zi (zlt A B n 0)) μ) : z_ci m_X12_isLess [(2, 113)] μ d K := by
  have key : ∀ (k : Nat) (i : Int), 0 ≤ i → i + k = n → zlt A B n 0 = zlt A B k i → z_ri m_X12_isLess 2 [some (2, 113), some (0, i)] μ d K := by
    intro k
    induction k with
    | zero =>
      intro i i0 hi hz
      refine V_X12_isLess_2 ?_
      rw [e21]
      refine ⟨fun _ => ?_, fun q => by omega⟩
      rw [hz] at hk
      exact hk
    | succ k ih =>
      intro i i0 hi hz
      have hz' : zlt A B n 0 = if A i = B i then zlt A B k (i + 1) else decide (A i < B i) := hz
      refine V_X12_isLess_2 ?_
      rw [e21]
      refine ⟨fun q => by omega, fun q => ?_⟩
      rw [hA i i0 q, hB i i0 q]
      refine ⟨(by first | omega | exact ⟨by omega, by omega⟩), (by first | omega | exact ⟨by omega, by omega⟩), fun w => ⟨(by first | omega | exact ⟨by omega, by omega⟩), ?_⟩, fun w => ⟨(by first | omega | exact ⟨by omega, by omega⟩), (by first | omega | exact ⟨by omega, by omega⟩), fun w2 => ?_, fun w2 => ?_⟩⟩
      · rw [if_pos w] at hz'
        exact ih (i + 1) (by omega) (by omega) hz'
      · rw [if_neg w, decide_eq_false (by omega)] at hz'
        rw [hz'] at hk
        exact hk
      · rw [if_neg w, decide_eq_true w2] at hz'
        rw [hz'] at hk
        exact hk
  exact V_X12_isLess (key n 0 (by omega) (by omega) rfl)
theorem e_first (hn : n ≤ 30) (h75 : μ 75 0 = n) (hA : ∀ j : Int, 0 ≤ j → j < n → μ 77 j = A j) (hB : ∀ j : Int, 0 ≤ j → j < n → μ 76 j = B j) (hk : K (zi (zlt A B n 0)) μ) : z_ci m_X8_isTrialFirst [(2, 75)] μ d K := by
  have key : ∀ (k : Nat) (i : Int), 0 ≤ i → i + k = n → zlt A B n 0 = zlt A B k i → z_ri m_X8_isTrialFirst 2 [some (2, 75), some (0, i)] μ d K := by
    intro k
    induction k with
    | zero =>
      intro i i0 hi hz
      refine V_X8_isTrialFirst_2 ?_
      rw [h75]
      refine ⟨fun _ => ?_, fun q => by omega⟩
      rw [hz] at hk
      exact hk
    | succ k ih =>
      intro i i0 hi hz
      have hz' : zlt A B n 0 = if A i = B i then zlt A B k (i + 1) else decide (A i < B i) := hz
      refine V_X8_isTrialFirst_2 ?_
      rw [h75]
      refine ⟨fun q => by omega, fun q => ?_⟩
      rw [hA i i0 q, hB i i0 q]
      refine ⟨(by first | omega | exact ⟨by omega, by omega⟩), (by first | omega | exact ⟨by omega, by omega⟩), fun w => ⟨(by first | omega | exact ⟨by omega, by omega⟩), ?_⟩, fun w => ⟨(by first | omega | exact ⟨by omega, by omega⟩), (by first | omega | exact ⟨by omega, by omega⟩), fun w2 => ?_, fun w2 => ?_⟩⟩
      · rw [if_pos w] at hz'
        exact ih (i + 1) (by omega) (by omega) hz'
      · rw [if_neg w, decide_eq_false (by omega)] at hz'
        rw [hz'] at hk
        exact hk
      · rw [if_neg w, decide_eq_true w2] at hz'
        rw [hz'] at hk
        exact hk
  exact V_X8_isTrialFirst (key n 0 (by omega) (by omega) rfl)
end LS

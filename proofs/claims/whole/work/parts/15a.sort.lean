/-! THE OUTLINE: a row put in order, on both sides -/
def zsB (B : Int → Int) (k : Int) : Int → Int := fun j => if j = k then B (k + 1) else if j = k + 1 then B k else B j
def zdn : Nat → (Int → Int) → Int → Int
  | 0, B => B
  | k + 1, B => if B k ≤ B (k + 1) then B else zdn k (zsB B k)
def zsr : Nat → (Int → Int) → Int → Int
  | 0, B => B
  | i + 1, B => zdn i (zsr i B)
section SO
variable {v w : Int} {n i k : Nat} {A B : Int → Int} {μ μ0 : z_Mem} {d : Nat} {K : Int → z_Mem → Prop} {Kn : z_Mem → Prop}
theorem e12_sorts (hn : n ≤ 30) (hk : ∀ m, (∀ o i, o ≠ 145 → m o i = μ o i) → m 145 = zsr n (μ 145) → Kn m) : z_cn m_X12_sorts [(2, 113), (0, n)] μ d Kn := by
  have outer : ∀ (j i : Nat) (m : z_Mem), i + j = n → 1 ≤ i → (∀ o x, o ≠ 145 → m o x = μ o x) → m 145 = zsr i (μ 145) → z_rn m_X12_sorts 2 [some (2, 113), some (0, n), some (0, i), none, none] m d Kn := by
    intro j
    induction j with
    | zero =>
      intro i m hi h1 hf hm
      obtain rfl : i = n := by omega
      exact V_X12_sorts_2 ⟨fun _ => hk m hf hm, fun q => by omega⟩
    | succ j ih =>
      intro i m hi h1 hf hm
      refine V_X12_sorts_2 ⟨fun q => by omega, fun q => ?_⟩
      have done : ∀ m, (∀ o x, o ≠ 145 → m o x = μ o x) → m 145 = zsr (i + 1) (μ 145) → z_I ((i : Int) + 1) ∧ z_rn m_X12_sorts 2 [some (2, 113), some (0, n), some (0, (i : Int) + 1), none, none] m d Kn := fun m hf hm => ⟨(by first | omega | exact ⟨by omega, by omega⟩), ih (i + 1) m (by omega) (by omega) hf hm⟩
      have inner : ∀ (k : Nat) (m : z_Mem), k ≤ i → (∀ o x, o ≠ 145 → m o x = μ o x) → zdn k (m 145) = zsr (i + 1) (μ 145) → z_rn m_X12_sorts 9 [some (2, 113), some (0, n), some (0, i), some (0, k), none] m d Kn := by
        intro k
        induction k with
        | zero =>
          intro m hki hf hm
          exact V_X12_sorts_9 ⟨fun _ => done m hf hm, fun q => by omega⟩
        | succ k ih2 =>
          intro m hki hf hm
          have ek : ((k + 1 : Nat) : Int) - 1 = k := by omega
          have ek2 : ((k + 1 : Nat) : Int) + (-1) = k := by omega
          have ek3 : ((k + 1 : Nat) : Int) = (k : Int) + 1 := by omega
          refine V_X12_sorts_9 ⟨fun q => by omega, fun q => ?_⟩
          rw [ek, ek2, ek3]
          have hm' : (if m 145 k ≤ m 145 (k + 1) then m 145 else zdn k (zsB (m 145) k)) = zsr (i + 1) (μ 145) := hm
          refine ⟨(by first | omega | exact ⟨by omega, by omega⟩), (by first | omega | exact ⟨by omega, by omega⟩), (by first | omega | exact ⟨by omega, by omega⟩), fun z => ?_, fun z => ⟨(by first | omega | exact ⟨by omega, by omega⟩), (by first | omega | exact ⟨by omega, by omega⟩), (by first | omega | exact ⟨by omega, by omega⟩), (by first | omega | exact ⟨by omega, by omega⟩), (by first | omega | exact ⟨by omega, by omega⟩), (by first | omega | exact ⟨by omega, by omega⟩), (by first | omega | exact ⟨by omega, by omega⟩), ?_⟩⟩
          · rw [if_pos z] at hm'
            exact done m hf hm'
          · rw [if_neg (by omega)] at hm'
            refine ih2 _ (by omega) (fun o x ho => by rw [z_st_ne ho, z_st_ne ho]; exact hf o x ho) ?_
            rw [← hm']
            congr 1
            funext j
            unfold zsB
            by_cases w1 : j = k
            · rw [if_pos w1, w1, z_st_eq]
            · rw [if_neg w1, z_st_ni w1]
              by_cases w2 : j = k + 1
              · rw [if_pos w2, w2, z_st_eq]
              · rw [if_neg w2, z_st_ni w2]
      exact inner i m (Nat.le_refl _) hf (by rw [hm]; rfl)
  refine V_X12_sorts ?_
  rcases (by omega : n = 0 ∨ 1 ≤ n) with w | w
  · subst w
    exact V_X12_sorts_2 ⟨fun _ => hk μ (fun _ _ _ => rfl) rfl, fun q => by omega⟩
  · exact outer (n - 1) 1 μ (by omega) (Nat.le_refl _) (fun _ _ _ => rfl) rfl
theorem e_sort (hn : n ≤ 30) (h75 : μ 75 0 = n) (hk : ∀ m, (∀ o i, o ≠ 77 → m o i = μ o i) → m 77 = zsr n (μ 77) → Kn m) : z_cn m_X8_sort [(2, 75)] μ d Kn := by
  have outer : ∀ (j i : Nat) (m : z_Mem), i + j = n → 1 ≤ i → (∀ o x, o ≠ 77 → m o x = μ o x) → m 77 = zsr i (μ 77) → z_rn m_X8_sort 2 [some (2, 75), some (0, i), none, none] m d Kn := by
    intro j
    induction j with
    | zero =>
      intro i m hi h1 hf hm
      obtain rfl : i = n := by omega
      exact V_X8_sort_2 ⟨fun _ => hk m hf hm, fun q => by rw [hf 75 0 (by decide), h75] at q; omega⟩
    | succ j ih =>
      intro i m hi h1 hf hm
      refine V_X8_sort_2 ⟨fun q => by rw [hf 75 0 (by decide), h75] at q; omega, fun q => ⟨(by first | omega | exact ⟨by omega, by omega⟩), ?_⟩⟩
      have done : ∀ m, (∀ o x, o ≠ 77 → m o x = μ o x) → m 77 = zsr (i + 1) (μ 77) → z_I ((i : Int) + 1) ∧ z_rn m_X8_sort 2 [some (2, 75), some (0, (i : Int) + 1), none, none] m d Kn := fun m hf hm => ⟨(by first | omega | exact ⟨by omega, by omega⟩), ih (i + 1) m (by omega) (by omega) hf hm⟩
      generalize hv : m 77 i = v
      have put : ∀ (k : Int) (m1 : z_Mem) (A : Int → Int), (∀ j, A j = if j = k then v else m1 77 j) → z_st m1 77 k v 77 = A := fun k m1 A hA => by
        funext j
        rw [hA j]
        by_cases w : j = k
        · rw [if_pos w, w, z_st_eq]
        · rw [if_neg w, z_st_ni w]
      have inner : ∀ (k : Nat) (m : z_Mem), k ≤ i → (∀ o x, o ≠ 77 → m o x = μ o x) → zdn k (fun j => if j = (k : Int) then v else m 77 j) = zsr (i + 1) (μ 77) → z_rn m_X8_sort 19 [some (2, 75), some (0, i), some (0, v), some (0, k)] m d Kn := by
        intro k
        induction k with
        | zero =>
          intro m hki hf hm
          refine V_X8_sort_19 ⟨fun _ => ⟨(by first | omega | exact ⟨by omega, by omega⟩), done _ (fun o x ho => by rw [z_st_ne ho]; exact hf o x ho) ?_⟩, fun q => by omega⟩
          rw [← hm]
          exact put _ _ _ (fun j => rfl)
        | succ k ih2 =>
          intro m hki hf hm
          have ek : ((k + 1 : Nat) : Int) - 1 = k := by omega
          have ek2 : ((k + 1 : Nat) : Int) + (-1) = k := by omega
          have ek3 : ((k + 1 : Nat) : Int) = (k : Int) + 1 := by omega
          refine V_X8_sort_19 ⟨fun q => by omega, fun q => ?_⟩
          rw [ek, ek2, ek3]
          have hm' : (if (if (k : Int) = ((k + 1 : Nat) : Int) then v else m 77 k) ≤ (if (k : Int) + 1 = ((k + 1 : Nat) : Int) then v else m 77 (k + 1)) then (fun j : Int => if j = ((k + 1 : Nat) : Int) then v else m 77 j) else zdn k (zsB (fun j => if j = ((k + 1 : Nat) : Int) then v else m 77 j) k)) = zsr (i + 1) (μ 77) := hm
          rw [if_neg (by omega : ¬ (k : Int) = ((k + 1 : Nat) : Int)), if_pos (by omega : (k : Int) + 1 = ((k + 1 : Nat) : Int))] at hm'
          refine ⟨(by first | omega | exact ⟨by omega, by omega⟩), (by first | omega | exact ⟨by omega, by omega⟩), fun z => ⟨(by first | omega | exact ⟨by omega, by omega⟩), done _ (fun o x ho => by rw [z_st_ne ho]; exact hf o x ho) ?_⟩, fun z => ⟨(by first | omega | exact ⟨by omega, by omega⟩), (by first | omega | exact ⟨by omega, by omega⟩), (by first | omega | exact ⟨by omega, by omega⟩), (by first | omega | exact ⟨by omega, by omega⟩), ?_⟩⟩
          · rw [if_pos z] at hm'
            rw [← hm']
            exact put _ _ _ (fun j => by rw [ek3])
          · rw [if_neg (by omega)] at hm'
            refine ih2 _ (by omega) (fun o x ho => by rw [z_st_ne ho]; exact hf o x ho) ?_
            rw [← hm']
            congr 1
            funext j
            unfold zsB
            by_cases w1 : j = k
            · rw [if_pos w1, if_pos w1]
              exact (if_pos (show (k : Int) + 1 = ((k + 1 : Nat) : Int) by omega)).symm
            · rw [if_neg w1, if_neg w1]
              by_cases w2 : j = k + 1
              · rw [if_pos w2, w2, z_st_eq]
                exact (if_neg (show ¬ (k : Int) = ((k + 1 : Nat) : Int) by omega)).symm
              · rw [if_neg w2, z_st_ni w2]
                exact (if_neg (show ¬ j = ((k + 1 : Nat) : Int) by omega)).symm
      refine inner i m (Nat.le_refl _) hf ?_
      have e : (fun j => if j = (i : Int) then v else m 77 j) = m 77 := by
        funext j
        by_cases w : j = i
        · rw [if_pos w, w, hv]
        · rw [if_neg w]
      rw [e, hm]
      rfl
  refine V_X8_sort ?_
  rcases (by omega : n = 0 ∨ 1 ≤ n) with w | w
  · subst w
    exact V_X8_sort_2 ⟨fun _ => hk μ (fun _ _ _ => rfl) rfl, fun q => by rw [h75] at q; omega⟩
  · exact outer (n - 1) 1 μ (by omega) (Nat.le_refl _) (fun _ _ _ => rfl) rfl
end SO

/-! THE OUTLINE: the least of the eight ways, the reference -/
def zrw (p : zP) (a : Int) : Int → Int := zsr (pF p).toNat (zcl p a)
def zou (p : zP) : Nat → Int → Int
  | 0 => fun _ => 0
  | k + 1 => if k = 0 then zrw p 0 else if zlt (zrw p k) (zou p k) (pF p).toNat 0 = true then zrw p k else zou p k
section OU
variable {p : zP} {μ : z_Mem} {d : Nat} {K : Int → z_Mem → Prop}
theorem e12_laysOutline (hv : zV p) (hc : zMn' μ p) (h0 : ¬ (zWo p ∧ zoN p ≤ 0) → ∀ m, (∀ o i, (o < 130 ∨ 132 < o) → (o < 135 ∨ 137 < o) → o ≠ 145 → o ≠ 146 → m o i = μ o i) → K 0 m) (h1 : zWo p → zoN p ≤ 0 → ∀ m, (∀ o i, (o < 130 ∨ 132 < o) → (o < 135 ∨ 137 < o) → o ≠ 145 → o ≠ 146 → m o i = μ o i) → (∀ j : Int, 0 ≤ j → j < pF p → m 146 j = zou p 8 j) → K 1 m) : z_ci m_X12_laysOutline [(2, 113)] μ (d + 8) K := by
  have F0 : 0 ≤ pF p ∧ pF p ≤ 30 := (zV_sk hv).1
  refine V_X12_laysOutline (e12_isWhole hv hc (fun hw m fm => zy1' ?_) (fun hw m fm => zy0' (h0 (fun w => hw w.1) m (fun o i a _ _ _ => fm o i (by omega) (by omega) (by omega)))))
  have C : zMn' m p := zMn_fr hc hv.1 (fun x i w => fm x i (by omega) (by omega) (by omega))
  refine e12_overlaps hv C (fun m2 f2 q2 => ⟨fun z => ?_, fun z => h0 (fun w => by omega) m2 (fun o i a b _ _ => by rw [f2 o i a b]; exact fm o i (by omega) (by omega) (by omega))⟩)
  have F2 : ∀ o i, (o < 130 ∨ 132 < o) → (o < 135 ∨ 137 < o) → m2 o i = μ o i := fun o i a b => by rw [f2 o i a b]; exact fm o i (by omega) (by omega) (by omega)
  have e21 : m2 113 21 = pF p := by rw [F2 113 21 (by decide) (by decide)]; exact hc.1.1.2.1
  have cn : (((pF p).toNat : Nat) : Int) = pF p := by omega
  have loop : ∀ (j i : Nat) (m : z_Mem), i + j = 8 → (∀ o i, o ≠ 145 → o ≠ 146 → m o i = m2 o i) → (0 < i → ∀ j : Int, 0 ≤ j → j < pF p → m 146 j = zou p i j) → z_ri m_X12_laysOutline 18 [some (2, 113), some (0, i), none] m (d + 8) K := by
    intro j
    induction j with
    | zero =>
      intro i m hi hf hm
      obtain rfl : i = 8 := by omega
      exact V_X12_laysOutline_18 ⟨fun _ => h1 hw z m (fun o x a b c d => by rw [hf o x c d]; exact F2 o x a b) (hm (by omega)), fun q => by omega⟩
    | succ j ih =>
      intro i m hi hf hm
      have qm : zQM m p := by
        refine ⟨fun f f0 f1 => by rw [hf 130 f (by decide) (by decide)]; exact q2.1 f f0 f1, fun f hp => ?_⟩
        rw [hf 135 f (by decide) (by decide), hf 136 f (by decide) (by decide), hf 137 f (by decide) (by decide)]
        exact q2.2 f hp
      refine V_X12_laysOutline_18 ⟨fun q => by omega, fun q => ?_⟩
      refine e12_laysCells hv hw (by omega) (by rw [hf 113 21 (by decide) (by decide)]; exact e21) qm (fun m3 f3 h3 => ?_)
      have e31 : m3 113 21 = pF p := by rw [f3 113 21 (by decide), hf 113 21 (by decide) (by decide)]; exact e21
      have copy : (zou p (i + 1) = zrw p i) → ∀ f, 0 ≤ f → f ≤ pF p → ∀ m4 : z_Mem, (∀ o x, o ≠ 146 → m4 o x = m3 o x) → (∀ g, 0 ≤ g → g < f → m4 146 g = zrw p i g) → z_ri m_X12_laysOutline 42 [some (2, 113), some (0, i), some (0, f)] m4 (d + 8) K := fun hz => by
        refine z_up (fun f f0 f1 ih2 m4 hf4 hm4 => V_X12_laysOutline_42 ?_)
        rw [hf4 113 21 (by decide), e31]
        refine ⟨fun w => ⟨(by first | omega | exact ⟨by omega, by omega⟩), ?_⟩, fun w => ⟨(by first | omega | exact ⟨by omega, by omega⟩), (by first | omega | exact ⟨by omega, by omega⟩), (by first | omega | exact ⟨by omega, by omega⟩), ?_⟩⟩
        · obtain rfl : f = pF p := by omega
          have := ih (i + 1) m4 (by omega) (fun o x a b => by rw [hf4 o x b, f3 o x a]; exact hf o x a b) (fun _ g g0 g1 => by rw [hz]; exact hm4 g g0 g1)
          exact this
        · refine ih2 w _ (fun o x ho => by rw [z_st_ne ho]; exact hf4 o x ho) (fun g g0 g1 => ?_)
          by_cases v : g = f
          · rw [v, z_st_eq, hf4 145 f (by decide)]
            exact h3 f f0 w
          · rw [z_st_ni v]
            exact hm4 g g0 (by omega)
      refine ⟨fun w => ?_, fun w => ?_⟩
      · obtain rfl : i = 0 := by omega
        exact copy rfl 0 (by omega) (by omega) m3 (fun _ _ _ => rfl) (fun g g0 g1 => by omega)
      · have hi0 : ¬ i = 0 := by omega
        have ez : zou p (i + 1) = if zlt (zrw p i) (zou p i) (pF p).toNat 0 = true then zrw p i else zou p i := if_neg hi0
        refine e12_isLess (n := (pF p).toNat) (A := zrw p i) (B := zou p i) (by omega) (by rw [e31, cn]) (fun g g0 g1 => h3 g g0 (by omega)) (fun g g0 g1 => by rw [f3 146 g (by decide)]; exact hm (by omega) g g0 (by omega)) ?_
        cases hl : zlt (zrw p i) (zou p i) (pF p).toNat 0 with
        | true =>
          rw [hl] at ez
          exact ⟨fun x => absurd x (by decide), fun _ => copy ez 0 (by omega) (by omega) m3 (fun _ _ _ => rfl) (fun g g0 g1 => by omega)⟩
        | false =>
          rw [hl] at ez
          have ez : zou p (i + 1) = zou p i := ez
          refine ⟨fun _ => ⟨(by first | omega | exact ⟨by omega, by omega⟩), ?_⟩, fun x => absurd rfl x⟩
          have := ih (i + 1) m3 (by omega) (fun o x a b => by rw [f3 o x a]; exact hf o x a b) (fun _ g g0 g1 => by rw [ez, f3 146 g (by decide)]; exact hm (by omega) g g0 g1)
          exact this
  exact loop 8 0 m2 rfl (fun _ _ _ _ => rfl) (fun w => absurd w (by decide))
end OU

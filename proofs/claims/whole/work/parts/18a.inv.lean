/-! WHAT HOLDS BETWEEN TWO CALLS -/
def zTape (μ : z_Mem) : Prop := (0 ≤ μ 1 1 ∧ μ 1 1 ≤ 200) ∧ μ 113 8 = μ 1 1 ∧ ∀ i, 0 ≤ i → i < μ 1 1 → μ 120 i % 256 = μ 2 i ∧ -128 ≤ μ 120 i ∧ μ 120 i ≤ 127
def zShf (μ : z_Mem) (a : Int) : Prop := (μ (103 + 5 * a) 0 = 0 ∧ μ 119 a = 0) ∨ ∃ q V, zV q ∧ (pF q = 0 ∨ V = pW q) ∧ zV (psW q V) ∧ (∀ i, ¬ (0 ≤ i ∧ i < 21) → μ 7 i = pS q i) ∧ zSC μ (103 + 5 * a) q ∧ zSM μ a (psW q V)
def zI0 (μ : z_Mem) (p : zP) (V : Int → Int) (k : Int) (Q : Int → zP) : Prop := zV p ∧ (pF p = 0 ∨ V = pW p) ∧ zV (psW p V) ∧ zCn' μ p ∧ zMn' μ (psW p V) ∧ zHC μ k Q ∧ zHM μ k Q ∧ zQv p k Q ∧ zKn μ p ∧ zBd μ p ∧ zKg μ p ∧ zTape μ ∧ zShf μ 0 ∧ zShf μ 1
def z_Inv (μ : z_Mem) : Prop := ∃ p V k Q, zI0 μ p V k Q
section IN
variable {a b c k k' : Int} {p p' q : zP} {V V' : Int → Int} {Q Q' : Int → zP} {μ m1 m2 : z_Mem} {d : Nat} {K : Int → z_Mem → Prop}
theorem zTape_fr {m : z_Mem} (h : zTape μ) (h1 : m 1 1 = μ 1 1) (h2 : ∀ i, m 2 i = μ 2 i) (h8 : m 113 8 = μ 113 8) (h120 : ∀ i, m 120 i = μ 120 i) : zTape m := by
  unfold zTape
  rw [h1, h8]
  exact ⟨h.1, h.2.1, fun i i0 i1 => by rw [h2, h120]; exact h.2.2 i i0 i1⟩
theorem zShf_fr {m : z_Mem} (h : zShf μ a) (ha : a = 0 ∨ a = 1) (h7 : ∀ i, ¬ (0 ≤ i ∧ i < 21) → m 7 i = μ 7 i) (hc : ∀ x i, 103 + 5 * a ≤ x → x ≤ 103 + 5 * a + 4 → m x i = μ x i) (hm : ∀ x i, x = 118 ∨ x = 119 → m x i = μ x i) : zShf m a := by
  rcases h with h | ⟨q, V, h1, h2, h3, h4, h5, h6⟩
  · exact Or.inl ⟨by rw [hc _ 0 (by omega) (by omega)]; exact h.1, by rw [hm 119 a (Or.inr rfl)]; exact h.2⟩
  · exact Or.inr ⟨q, V, h1, h2, h3, fun i w => by rw [h7 i w]; exact h4 i w, zSC_fr h5 hc, zSM_fr h6 h1.1 hm⟩
/-- behind both calls -/
theorem zI_end0 (T : zTape m2) (S0 : zShf m2 0) (S1 : zShf m2 1) (e : ∀ x i, x ≤ 112 → m2 x i = m1 x i) (hv : zV p') (hw : pF p' = 0 ∨ V' = pW p') (hv2 : zV (psW p' V')) (c1 : zCn' m1 p') (c2 : zMn' m2 (psW p' V')) (h1 : zHC m1 k' Q') (h2 : zHM m2 k' Q') (hq : zQv p' k' Q') (n1 : zKn m1 p') (b1 : zBd m1 p') (g1 : zKg m1 p') : z_Inv m2 := by
  refine ⟨p', V', k', Q', hv, hw, hv2, zCn_fr c1 (fun x i w => e x i (by omega)), c2, zHC_fr h1 (fun x i _ _ => e x i (by omega)), h2, hq, ?_, ?_, ?_, T, S0, S1⟩
  · unfold zKn
    rw [e 29 0 (by decide), e 29 1 (by decide), e 29 2 (by decide), e 29 3 (by decide)]
    exact n1
  · unfold zBd
    rw [e 39 0 (by decide)]
    exact fun z w => zBor_fr (b1 z w) (e 39 1 (by decide)) (fun x i _ _ => e x i (by omega))
  · exact zKg_fr g1 (e 44 0 (by decide)) (e 44 1 (by decide)) (e 44 3 (by decide)) (fun i => e 46 i (by decide))
theorem zI_end (T : zTape μ) (S0 : zShf μ 0) (S1 : zShf μ 1) (F1 : ∀ x i, (x ≤ 2 ∨ 102 ≤ x) → m1 x i = μ x i) (F7 : ∀ i, ¬ (0 ≤ i ∧ i < 21) → m1 7 i = μ 7 i) (F2 : ∀ x i, (x ≤ 112 ∨ (x = 113 ∧ i = 8) ∨ (118 ≤ x ∧ x ≤ 120)) → m2 x i = m1 x i) (hv : zV p') (hw : pF p' = 0 ∨ V' = pW p') (hv2 : zV (psW p' V')) (c1 : zCn' m1 p') (c2 : zMn' m2 (psW p' V')) (h1 : zHC m1 k' Q') (h2 : zHM m2 k' Q') (hq : zQv p' k' Q') (n1 : zKn m1 p') (b1 : zBd m1 p') (g1 : zKg m1 p') : z_Inv m2 := by
  have e : ∀ x i, x ≤ 112 → m2 x i = m1 x i := fun x i w => F2 x i (Or.inl w)
  refine zI_end0 (m1 := m1) ?_ ?_ ?_ e hv hw hv2 c1 c2 h1 h2 hq n1 b1 g1
  · exact zTape_fr T (by rw [e 1 1 (by decide), F1 1 1 (by decide)]) (fun i => by rw [e 2 i (by decide), F1 2 i (by decide)]) (by rw [F2 113 8 (by decide), F1 113 8 (by decide)]) (fun i => by rw [F2 120 i (by omega), F1 120 i (by omega)])
  · exact zShf_fr S0 (Or.inl rfl) (fun i w => by rw [e 7 i (by decide), F7 i w]) (fun x i _ _ => by rw [e x i (by omega), F1 x i (by omega)]) (fun x i _ => by rw [F2 x i (by omega), F1 x i (by omega)])
  · exact zShf_fr S1 (Or.inr rfl) (fun i w => by rw [e 7 i (by decide), F7 i w]) (fun x i _ _ => by rw [e x i (by omega), F1 x i (by omega)]) (fun x i _ => by rw [F2 x i (by omega), F1 x i (by omega)])
/-- nothing is changed but what is looked at -/
theorem zI_q (I : zI0 μ p V k Q) (F1 : ∀ x i, (x < 17 ∨ (18 < x ∧ x < 29) ∨ 79 < x) → m1 x i = μ x i) (n1 : zKn m1 p) (b1 : zBd m1 p) (g1 : zKg m1 p) (F2 : ∀ x i, (x ≤ 112 ∨ (x = 113 ∧ (i = 6 ∨ i = 8)) ∨ (117 ≤ x ∧ x ≤ 120)) → m2 x i = m1 x i) (c2 : zMn' m2 (psW p V)) : z_Inv m2 := by
  obtain ⟨v, w, v2, c, m, h, hm, q, n, b, g, t, s0, s1⟩ := I
  exact zI_end t s0 s1 (fun x i w => F1 x i (by omega)) (fun i _ => F1 7 i (by omega)) (fun x i w => F2 x i (by omega)) v w v2 (zCn_fr c (fun x i w => F1 x i (by omega))) c2 (zHC_fr h (fun x i _ _ => F1 x i (by omega))) (zHM_fr hm (by rw [F2 113 6 (by decide), F1 113 6 (by decide)]) (fun i _ => by rw [F2 117 i (by omega), F1 117 i (by omega)])) q n1 b1 g1
theorem zI_q' (I : zI0 μ p V k Q) (F1 : ∀ x i, (x < 17 ∨ (18 < x ∧ x < 29) ∨ 79 < x) → m1 x i = μ x i) (n1 : zKn m1 p) (b1 : zBd m1 p) (g1 : zKg m1 p) (F2 : ∀ x i, (x ≤ 112 ∨ (x = 113 ∧ (i = 6 ∨ i = 8 ∨ (21 ≤ i ∧ i ≤ 23))) ∨ x = 114 ∨ (117 ≤ x ∧ x ≤ 129)) → m2 x i = m1 x i) : z_Inv m2 := by
  refine zI_q I F1 n1 b1 g1 (fun x i w => F2 x i (by omega)) ?_
  obtain ⟨v, w, v2, c, m, h, hm, q, n, b, g, t, s0, s1⟩ := I
  exact zMn_fr m v2.1 (fun x i w => by rw [F2 x i (by omega), F1 x i (by omega)])
/-- the class has changed nothing of what it keeps -/
theorem zI_g (I : zI0 μ p V k Q) (F1 : ∀ x i, (x < 17 ∨ (18 < x ∧ x < 75) ∨ 79 < x) → m1 x i = μ x i) : zKn m1 p ∧ zBd m1 p ∧ zKg m1 p := by
  obtain ⟨v, w, v2, c, m, h, hm, q, n, b, g, t, s0, s1⟩ := id I
  refine ⟨?_, ?_, ?_⟩
  · unfold zKn
    rw [F1 29 0 (by decide), F1 29 1 (by decide), F1 29 2 (by decide), F1 29 3 (by decide)]
    exact n
  · unfold zBd
    rw [F1 39 0 (by decide)]
    exact fun z w => zBor_fr (b z w) (F1 39 1 (by decide)) (fun x i _ _ => F1 x i (by omega))
  · exact zKg_fr g (F1 44 0 (by decide)) (F1 44 1 (by decide)) (F1 44 3 (by decide)) (fun i => F1 46 i (by decide))
theorem zI_f (I : zI0 μ p V k Q) (F1 : ∀ x i, (x < 17 ∨ (18 < x ∧ x < 75) ∨ 79 < x) → m1 x i = μ x i) (F2 : ∀ x i, (x ≤ 112 ∨ (x = 113 ∧ (i = 6 ∨ i = 8 ∨ (21 ≤ i ∧ i ≤ 23))) ∨ x = 114 ∨ (117 ≤ x ∧ x ≤ 129)) → m2 x i = m1 x i) : z_Inv m2 :=
  zI_q' I (fun x i w => F1 x i (by omega)) (zI_g I F1).1 (zI_g I F1).2.1 (zI_g I F1).2.2 F2
theorem zI_h (I : zI0 μ p V k Q) (F1 : ∀ x i, (x < 17 ∨ (18 < x ∧ x < 75) ∨ 79 < x) → m1 x i = μ x i) (F2 : ∀ x i, (x ≤ 112 ∨ (x = 113 ∧ (i = 6 ∨ i = 8)) ∨ (117 ≤ x ∧ x ≤ 120)) → m2 x i = m1 x i) (c2 : zMn' m2 (psW p V)) : z_Inv m2 :=
  zI_q I (fun x i w => F1 x i (by omega)) (zI_g I F1).1 (zI_g I F1).2.1 (zI_g I F1).2.2 F2 c2
/-- behind an act -/
theorem zI_a (I : zI0 μ p V k Q) (F1 : zfA μ m1) (z29 : m1 29 0 = 0) (z39 : m1 39 0 = 0) (z44 : m1 44 0 = 0) (F2 : ∀ x i, (x ≤ 112 ∨ (x = 113 ∧ i = 8) ∨ (118 ≤ x ∧ x ≤ 120)) → m2 x i = m1 x i) (hv : zV p') (c1 : zCn' m1 p') (c2 : zMn' m2 p') (h1 : zHC m1 k' Q') (h2 : zHM m2 k' Q') (hq : zQv p' k' Q') : z_Inv m2 := by
  obtain ⟨v, w, v2, c, m, h, hm, q, n, b, g, t, s0, s1⟩ := I
  exact zI_end (p' := p') (V' := pW p') t s0 s1 (fun x i w => F1 x i (by omega)) (fun i _ => F1 7 i (by omega)) F2 hv (Or.inr rfl) hv c1 c2 h1 h2 hq (fun z => absurd z29 z) (fun z => absurd z39 z) (fun z => absurd z44 z)
end IN

/-! BOTH SIDES, CALL BY CALL: the TAPE, the SOLID, SHELVES -/
section OM
variable {a : Int} {p q : zP} {V : Int → Int} {μ m : z_Mem}
theorem zbs_by {v : Int} (hv : v = 0 ∨ v = 8 ∨ v = 16 ∨ v = 24) : z_bs a v % 256 = z_by a v ∧ 0 ≤ z_by a v ∧ z_by a v ≤ 255 := by
  unfold z_bs z_by
  rcases hv with rfl | rfl | rfl | rfl
  · show (Int.bmod (a / 1) 256) % 256 = (Int.bmod (a % 4294967296 / 1) 4294967296) % 256 ∧ _
    rw [zbm, show Int.bmod (a / 1) 256 = if a / 1 % 256 < 128 then a / 1 % 256 else a / 1 % 256 - 256 from rfl]
    split <;> split <;> omega
  · show (Int.bmod (a / 256) 256) % 256 = (Int.bmod (a % 4294967296 / 256) 4294967296) % 256 ∧ _
    rw [zbm, show Int.bmod (a / 256) 256 = if a / 256 % 256 < 128 then a / 256 % 256 else a / 256 % 256 - 256 from rfl]
    split <;> split <;> omega
  · show (Int.bmod (a / 65536) 256) % 256 = (Int.bmod (a % 4294967296 / 65536) 4294967296) % 256 ∧ _
    rw [zbm, show Int.bmod (a / 65536) 256 = if a / 65536 % 256 < 128 then a / 65536 % 256 else a / 65536 % 256 - 256 from rfl]
    split <;> split <;> omega
  · show (Int.bmod (a / 16777216) 256) % 256 = (Int.bmod (a % 4294967296 / 16777216) 4294967296) % 256 ∧ _
    rw [zbm, show Int.bmod (a / 16777216) 256 = if a / 16777216 % 256 < 128 then a / 16777216 % 256 else a / 16777216 % 256 - 256 from rfl]
    split <;> split <;> omega
/-- the class's four bytes c ahead of the reference's -/
theorem zTp_four {c c' r r' : z_Mem} (L : Int) (T : c 1 1 = L ∧ r 113 8 = L ∧ ∀ i, 0 ≤ i → i < L → r 120 i % 256 = c 2 i ∧ -128 ≤ r 120 i ∧ r 120 i ≤ 127) (h0 : 0 ≤ L) (h1 : z_four c a c') (h2 : z_four' r a r') : c' 1 1 = L + 4 ∧ r' 113 8 = L + 4 ∧ ∀ i, 0 ≤ i → i < L + 4 → r' 120 i % 256 = c' 2 i ∧ -128 ≤ r' 120 i ∧ r' 120 i ≤ 127 := by
  obtain ⟨t1, t2, t3⟩ := T
  obtain ⟨a1, a2, a3, a4, a5, a6, a7⟩ := h1
  obtain ⟨b1, b2, b3, b4, b5, b6, b7⟩ := h2
  rw [t1] at a1 a3 a4 a5 a6 a7
  rw [t2] at b1 b3 b4 b5 b6 b7
  refine ⟨a1, b1, fun i i0 i1 => ?_⟩
  rcases (by omega : i < L ∨ i = L ∨ i = L + 1 ∨ i = L + 2 ∨ i = L + 3) with w | rfl | rfl | rfl | rfl
  · rw [a3 i (Or.inl w), b3 i (Or.inl w)]
    exact t3 i i0 w
  · rw [a4, b4]
    exact ⟨(zbs_by (by omega)).1, z_bs_r a 24⟩
  · rw [a5, b5]
    exact ⟨(zbs_by (by omega)).1, z_bs_r a 16⟩
  · rw [a6, b6]
    exact ⟨(zbs_by (by omega)).1, z_bs_r a 8⟩
  · rw [a7, b7]
    exact ⟨(zbs_by (by omega)).1, z_bs_r a 0⟩
theorem z_four_f {c c' : z_Mem} (h : z_four c a c') : ∀ o i, o ≠ 1 → o ≠ 2 → c' o i = c o i := fun o i x y => h.2.1 o i (by omega) y
theorem z_four_f' {c c' : z_Mem} (h : z_four' c a c') : ∀ o i, ¬ (o = 113 ∧ i = 8) → o ≠ 120 → c' o i = c o i := fun o i x y => h.2.1 o i x y
/-- only the TAPE is another one -/
theorem zI_t {k : Int} {Q : Int → zP} {m1 m2 : z_Mem} (I : zI0 μ p V k Q) (F1 : ∀ x i, x ≠ 1 → x ≠ 2 → m1 x i = μ x i) (F2 : ∀ x i, ¬ (x = 113 ∧ i = 8) → x ≠ 120 → m2 x i = m1 x i) (T : zTape m2) : z_Inv m2 := by
  obtain ⟨v, w, v2, c, m, h, hm, q, n, b, g, t, s0, s1⟩ := id I
  have F : ∀ x i, x ≠ 1 → x ≠ 2 → ¬ (x = 113 ∧ i = 8) → x ≠ 120 → m2 x i = μ x i := fun x i y1 y2 y3 y4 => by rw [F2 x i y3 y4]; exact F1 x i y1 y2
  refine zI_end0 (m1 := m2) T (zShf_fr s0 (Or.inl rfl) (fun i _ => F 7 i (by decide) (by decide) (by omega) (by decide)) (fun x i _ _ => F x i (by omega) (by omega) (by omega) (by omega)) (fun x i _ => F x i (by omega) (by omega) (by omega) (by omega))) (zShf_fr s1 (Or.inr rfl) (fun i _ => F 7 i (by decide) (by decide) (by omega) (by decide)) (fun x i _ _ => F x i (by omega) (by omega) (by omega) (by omega)) (fun x i _ => F x i (by omega) (by omega) (by omega) (by omega))) (fun _ _ _ => rfl) v w v2 (zCn_fr c (fun x i _ => F x i (by omega) (by omega) (by omega) (by omega))) (zMn_fr m v2.1 (fun x i _ => F x i (by omega) (by omega) (by omega) (by omega))) (zHC_fr h (fun x i _ _ => F x i (by omega) (by omega) (by omega) (by omega))) (zHM_fr hm (F 113 6 (by decide) (by decide) (by decide) (by decide)) (fun i _ => F 117 i (by decide) (by decide) (by omega) (by decide))) q ?_ ?_ ?_
  · unfold zKn
    rw [F 29 0 (by decide) (by decide) (by decide) (by decide), F 29 1 (by decide) (by decide) (by decide) (by decide), F 29 2 (by decide) (by decide) (by decide) (by decide), F 29 3 (by decide) (by decide) (by decide) (by decide)]
    exact n
  · unfold zBd
    rw [F 39 0 (by decide) (by decide) (by decide) (by decide)]
    exact fun z w => zBor_fr (b z w) (F 39 1 (by decide) (by decide) (by decide) (by decide)) (fun x i _ _ => F x i (by omega) (by omega) (by omega) (by omega))
  · exact zKg_fr g (F 44 0 (by decide) (by decide) (by decide) (by decide)) (F 44 1 (by decide) (by decide) (by decide) (by decide)) (F 44 3 (by decide) (by decide) (by decide) (by decide)) (fun i => F 46 i (by decide) (by decide) (by omega) (by decide))
theorem opq_feed : op_0 z_Inv z_Inv := fun μ a1 a2 a3 a4 a5 ⟨p, V, k, Q, I⟩ _ _ _ _ _ _ => by
  obtain ⟨v, w, v2, c, m, h, hm, q, n, b, g, t, s0, s1⟩ := id I
  obtain ⟨t1, t2, t3⟩ := t
  refine e_feed (d := 199) t1 (fun big => ?_) (fun m1 m2 m3 m4 m5 h1 h2 h3 h4 h5 fit => ?_)
  · exact e12_feed (d := 199) (by omega) (fun _ => ⟨rfl, zI_f I (fun _ _ _ => rfl) (fun _ _ _ => rfl)⟩) (fun _ _ _ _ _ _ _ _ _ _ fit => by omega)
  · have C5 : ∀ o i, o ≠ 1 → o ≠ 2 → m5 o i = μ o i := fun o i x y => by rw [z_four_f h5 o i x y, z_four_f h4 o i x y, z_four_f h3 o i x y, z_four_f h2 o i x y, z_four_f h1 o i x y]
    have e8 : m5 113 8 = μ 1 1 := by rw [C5 113 8 (by decide) (by decide)]; exact t2
    refine e12_feed (d := 199) (by omega) (fun big => by omega) (fun r1 r2 r3 r4 r5 g1 g2 g3 g4 g5 _ => ?_)
    have T0 : μ 1 1 = μ 1 1 ∧ m5 113 8 = μ 1 1 ∧ ∀ i, 0 ≤ i → i < μ 1 1 → m5 120 i % 256 = μ 2 i ∧ -128 ≤ m5 120 i ∧ m5 120 i ≤ 127 := ⟨rfl, e8, fun i i0 i1 => by rw [C5 120 i (by decide) (by decide)]; exact t3 i i0 i1⟩
    have T1 := zTp_four _ T0 (by omega) h1 g1
    have T2 := zTp_four _ T1 (by omega) h2 g2
    have T3 := zTp_four _ T2 (by omega) h3 g3
    have T4 := zTp_four _ T3 (by omega) h4 g4
    have T5 := zTp_four _ T4 (by omega) h5 g5
    have R5 : ∀ o i, ¬ (o = 113 ∧ i = 8) → o ≠ 120 → r5 o i = m5 o i := fun o i x y => by rw [z_four_f' g5 o i x y, z_four_f' g4 o i x y, z_four_f' g3 o i x y, z_four_f' g2 o i x y, z_four_f' g1 o i x y]
    refine ⟨by rw [T5.2.1, T5.1], zI_t I C5 R5 ⟨?_, ?_, fun i i0 i1 => ?_⟩⟩
    · rw [R5 1 1 (by decide) (by decide), T5.1]
      omega
    · rw [R5 1 1 (by decide) (by decide), T5.1, T5.2.1]
    · rw [R5 1 1 (by decide) (by decide), T5.1] at i1
      rw [R5 2 i (by omega) (by decide)]
      exact T5.2.2 i i0 i1
theorem opq_end : op_1 z_Inv z_Inv := fun μ a1 ⟨p, V, k, Q, I⟩ _ _ => by
  obtain ⟨v, w, v2, c, m, h, hm, q, n, b, g, t, s0, s1⟩ := id I
  obtain ⟨t1, t2, t3⟩ := t
  have no : ¬ (0 ≤ a1 ∧ a1 ≤ μ 1 1) → z_ci m_X12_end [(2, 113), (0, a1)] μ 200 (fun y μ2 => y = -1 ∧ z_Inv μ2) := fun nn => by
    refine V_X12_end ?_
    rw [t2]
    exact ⟨fun _ => ⟨rfl, zI_f I (fun _ _ _ => rfl) (fun _ _ _ => rfl)⟩, fun x => ⟨fun y => absurd ⟨x, y⟩ nn, fun _ => ⟨rfl, zI_f I (fun _ _ _ => rfl) (fun _ _ _ => rfl)⟩⟩⟩
  refine V_X11_end ⟨fun x => no (by omega), fun x => ⟨fun y => ?_, fun y => no (by omega)⟩⟩
  refine V_X12_end ?_
  rw [z_st_ne (show (113 : Int) ≠ 1 by decide), t2]
  refine ⟨fun z => by omega, fun _ => ⟨fun _ => ⟨rfl, zI_t I (m1 := z_st μ 1 1 a1) (fun x i y1 y2 => z_st_ne y1) (fun x i y1 y2 => z_st_nx y1) ⟨?_, ?_, fun i i0 i1 => ?_⟩⟩, fun z => by omega⟩⟩
  · rw [z_st_ne (by decide), z_st_eq]
    omega
  · rw [z_st_eq, z_st_ne (by decide), z_st_eq]
  · rw [z_st_ne (by decide), z_st_eq] at i1
    rw [z_st_ne (by decide), z_st_ne (by decide), z_st_ne (by decide), z_st_ne (by decide)]
    exact t3 i i0 (by omega)
theorem opq_solid : op_2 z_Inv z_Inv := fun μ ⟨p, V, k, Q, I⟩ _ => by
  obtain ⟨v, w, v2, c, m, h, hm, q, n, b, g, t, s0, s1⟩ := id I
  obtain ⟨t1, t2, t3⟩ := t
  have hT : ∀ i, 0 ≤ i → i < μ 1 1 → 0 ≤ μ 2 i ∧ μ 2 i ≤ 255 := fun i i0 i1 => by
    have := (t3 i i0 i1).1
    omega
  refine e_solid (d := 192) t1 h (fun f n' s' hq hf hr m1 f1 z1 => ?_) (fun n' s' hq m1 s f1 z1 ag s7 hv z29 z39 z44 c1 h1 => ?_)
  · have B1 : zB m1 (μ 2) (μ 1 1) := ⟨fun i i0 i1 => by rw [f1 120 i (by decide) (by decide) (by omega)]; exact t3 i i0 i1, by rw [f1 113 8 (by decide) (by decide) (by decide)]; exact t2, t1.1, t1.2⟩
    refine e12_solid (s := fun _ => 0) (Q := Q) (d := 192) B1 hT hq hr (fun _ m2 f2 z2 => ⟨rfl, ?_⟩) (fun x => absurd x hf) (fun x => absurd x hf)
    have F : ∀ x i, x ≠ 3 → x ≠ 4 → x ≠ 115 → ¬ (x = 1 ∧ i = 1) → ¬ (x = 113 ∧ (i = 8 ∨ i = 9 ∨ i = 10 ∨ i = 11)) → m2 x i = μ x i := fun x i y1 y2 y3 y4 y5 => by rw [f2 x i y3 y5]; exact f1 x i y1 y2 y4
    have e11 : m2 1 1 = 0 := by rw [f2 1 1 (by decide) (by decide)]; exact z1
    refine zI_end0 (p' := p) (V' := V) (k' := k) (Q' := Q) (m1 := m2) ⟨by rw [e11]; decide, by rw [e11, z2], fun i i0 i1 => by rw [e11] at i1; omega⟩ (zShf_fr s0 (Or.inl rfl) (fun i _ => F 7 i (by decide) (by decide) (by decide) (by omega) (by omega)) (fun x i _ _ => F x i (by omega) (by omega) (by omega) (by omega) (by omega)) (fun x i _ => F x i (by omega) (by omega) (by omega) (by omega) (by omega))) (zShf_fr s1 (Or.inr rfl) (fun i _ => F 7 i (by decide) (by decide) (by decide) (by omega) (by omega)) (fun x i _ _ => F x i (by omega) (by omega) (by omega) (by omega) (by omega)) (fun x i _ => F x i (by omega) (by omega) (by omega) (by omega) (by omega))) (fun _ _ _ => rfl) v w v2 (zCn_fr c (fun x i _ => F x i (by omega) (by omega) (by omega) (by omega) (by omega))) (zMn_fr m v2.1 (fun x i _ => F x i (by omega) (by omega) (by omega) (by omega) (by omega))) (zHC_fr h (fun x i _ _ => F x i (by omega) (by omega) (by omega) (by omega) (by omega))) (zHM_fr hm (F 113 6 (by decide) (by decide) (by decide) (by decide) (by decide)) (fun i _ => F 117 i (by decide) (by decide) (by decide) (by omega) (by omega))) q ?_ ?_ ?_
    · unfold zKn
      rw [F 29 0 (by decide) (by decide) (by decide) (by decide) (by decide), F 29 1 (by decide) (by decide) (by decide) (by decide) (by decide), F 29 2 (by decide) (by decide) (by decide) (by decide) (by decide), F 29 3 (by decide) (by decide) (by decide) (by decide) (by decide)]
      exact n
    · unfold zBd
      rw [F 39 0 (by decide) (by decide) (by decide) (by decide) (by decide)]
      exact fun z w => zBor_fr (b z w) (F 39 1 (by decide) (by decide) (by decide) (by decide) (by decide)) (fun x i _ _ => F x i (by omega) (by omega) (by omega) (by omega) (by omega))
    · exact zKg_fr g (F 44 0 (by decide) (by decide) (by decide) (by decide) (by decide)) (F 44 1 (by decide) (by decide) (by decide) (by decide) (by decide)) (F 44 3 (by decide) (by decide) (by decide) (by decide) (by decide)) (fun i => F 46 i (by decide) (by decide) (by decide) (by omega) (by omega))
  · have B1 : zB m1 (μ 2) (μ 1 1) := ⟨fun i i0 i1 => by rw [f1 120 i (by omega) (by omega)]; exact t3 i i0 i1, by rw [f1 113 8 (by decide) (by decide)]; exact t2, t1.1, t1.2⟩
    refine e12_solid (f := -1) (s := s) (Q := Q) (d := 192) B1 hT hq (Or.inl rfl) (fun x => absurd rfl x) (fun _ => ⟨ag, hv⟩) (fun _ m2 f2 z2 c2 h2 => ⟨rfl, ?_⟩)
    have e11 : m2 1 1 = 0 := by rw [f2 1 1 (by decide) (by decide) (by decide) (by decide)]; exact z1
    have s7' : ∀ i, ¬ (0 ≤ i ∧ i < 21) → m2 7 i = μ 7 i := fun i x => by
      rw [f2 7 i (by decide) (by decide) (by decide) (by omega), show m1 7 = s from c1.1.1.2.1]
      exact s7 i x
    have F : ∀ x i, (103 ≤ x ∧ x ≤ 112) ∨ x = 118 ∨ x = 119 → m2 x i = μ x i := fun x i y => by rw [f2 x i (by omega) (by omega) (by omega) (by omega)]; exact f1 x i (by omega) (by omega)
    exact zI_end0 (p' := psN n' s) (V' := fun _ => 1) (k' := 0) (Q' := Q) (m1 := m1) ⟨by rw [e11]; decide, by rw [e11, z2], fun i i0 i1 => by rw [e11] at i1; omega⟩ (zShf_fr s0 (Or.inl rfl) s7' (fun x i _ _ => F x i (by omega)) (fun x i _ => F x i (by omega))) (zShf_fr s1 (Or.inr rfl) s7' (fun x i _ _ => F x i (by omega)) (fun x i _ => F x i (by omega))) (fun x i y => f2 x i (by omega) (by omega) (by omega) (by omega)) hv (Or.inr rfl) hv c1 c2 h1 h2 (fun i i0 i1 => by omega) (fun z => absurd z29 z) (fun z => absurd z39 z) (fun z => absurd z44 z)
theorem zSM_fr' (h : zSM μ a p) (hn : 0 ≤ pn p ∧ pn p ≤ 7) (hf : ∀ i, 143 * a ≤ i → i < 143 * a + 143 → m 118 i = μ 118 i) (h9 : m 119 a = μ 119 a) : zSM m a p :=
  ⟨by rw [h9]; exact h.1, zRwM_fr h.2 hn hf⟩
theorem zShf_fr' (h : zShf μ a) (ha : a = 0 ∨ a = 1) (h7 : ∀ i, ¬ (0 ≤ i ∧ i < 21) → m 7 i = μ 7 i) (hc : ∀ x i, 103 + 5 * a ≤ x → x ≤ 103 + 5 * a + 4 → m x i = μ x i) (hm : ∀ i, 143 * a ≤ i → i < 143 * a + 143 → m 118 i = μ 118 i) (h9 : m 119 a = μ 119 a) : zShf m a := by
  rcases h with h | ⟨q, V, h1, h2, h3, h4, h5, h6⟩
  · exact Or.inl ⟨by rw [hc _ 0 (by omega) (by omega)]; exact h.1, by rw [h9]; exact h.2⟩
  · exact Or.inr ⟨q, V, h1, h2, h3, fun i w => by rw [h7 i w]; exact h4 i w, zSC_fr h5 hc, zSM_fr' h6 h1.1 hm h9⟩
theorem opq_keep : op_13 z_Inv z_Inv := fun μ a1 ⟨p, V, k, Q, I⟩ _ _ => by
  obtain ⟨v, w, v2, c, m, h, hm, q, n, b, g, t, s0, s1⟩ := id I
  refine e_keep (d := 196) v c (fun nn => ?_) (fun r m1 f1 y1 => ?_)
  · exact e12_keep (d := 196) v2 m (fun _ => ⟨rfl, zI_f I (fun _ _ _ => rfl) (fun _ _ _ => rfl)⟩) (fun r => absurd r nn)
  · refine e12_keep (d := 196) v2 (zMn_fr m v2.1 (fun x i w => f1 x i (by omega) (by omega) (by omega))) (fun nn => absurd r nn) (fun _ m2 f2 y2 => ⟨rfl, ?_⟩)
    have e1 : ∀ x i, x ≤ 112 → m2 x i = m1 x i := fun x i y => f2 x i (by omega) (by omega)
    have F : ∀ x i, x < 75 → m2 x i = μ x i := fun x i y => by rw [e1 x i (by omega)]; exact f1 x i (by omega) (by omega) (by omega)
    have own : zShf m2 a1 := Or.inr ⟨p, V, v, w, v2, fun i _ => by rw [F 7 i (by decide), c.1.1.2.1], zSC_fr y1 (fun x i y z => e1 x i (by omega)), y2⟩
    have oth : ∀ b, (b = 0 ∨ b = 1) → b ≠ a1 → zShf μ b → zShf m2 b := fun b hb ne hs => by
      refine zShf_fr' hs hb (fun i _ => F 7 i (by decide)) (fun x i y1 y2 => by rw [e1 x i (by omega)]; exact f1 x i (by omega) (by omega) (by omega)) (fun i y1 y2 => ?_) ?_
      · rw [f2 118 i (by omega) (by omega)]
        exact f1 118 i (by omega) (by omega) (by omega)
      · rw [f2 119 b (by omega) (by omega)]
        exact f1 119 b (by omega) (by omega) (by omega)
    have S0 : zShf m2 0 := by
      by_cases z : a1 = 0
      · rw [z] at own
        exact own
      · exact oth 0 (Or.inl rfl) (fun y => z y.symm) s0
    have S1 : zShf m2 1 := by
      by_cases z : a1 = 1
      · rw [z] at own
        exact own
      · exact oth 1 (Or.inr rfl) (fun y => z y.symm) s1
    have F3 : ∀ x i, 102 < x → ¬ (103 ≤ x ∧ x ≤ 112) → x ≠ 118 → x ≠ 119 → m2 x i = μ x i := fun x i y1 y2 y3 y4 => by rw [f2 x i (by omega) (by omega)]; exact f1 x i (by omega) (by omega) (by omega)
    refine zI_end0 (p' := p) (V' := V) (k' := k) (Q' := Q) (m1 := m2) (zTape_fr t (F 1 1 (by decide)) (fun i => F 2 i (by decide)) (F3 113 8 (by decide) (by decide) (by decide) (by decide)) (fun i => F3 120 i (by decide) (by decide) (by decide) (by decide))) S0 S1 (fun _ _ _ => rfl) v w v2 (zCn_fr c (fun x i _ => F x i (by omega))) (zMn_fr m v2.1 (fun x i _ => F3 x i (by omega) (by omega) (by omega) (by omega))) (zHC_fr h (fun x i _ _ => by rw [e1 x i (by omega)]; exact f1 x i (by omega) (by omega) (by omega))) (zHM_fr hm (F3 113 6 (by decide) (by decide) (by decide) (by decide)) (fun i _ => F3 117 i (by decide) (by decide) (by decide) (by decide))) q ?_ ?_ ?_
    · unfold zKn
      rw [F 29 0 (by decide), F 29 1 (by decide), F 29 2 (by decide), F 29 3 (by decide)]
      exact n
    · unfold zBd
      rw [F 39 0 (by decide)]
      exact fun z w => zBor_fr (b z w) (F 39 1 (by decide)) (fun x i _ _ => F x i (by omega))
    · exact zKg_fr g (F 44 0 (by decide)) (F 44 1 (by decide)) (F 44 3 (by decide)) (fun i => F 46 i (by decide))
theorem opq_back : op_14 z_Inv z_Inv := fun μ a1 ⟨p, V, k, Q, I⟩ _ _ => by
  obtain ⟨v, w, v2, c, m, h, hm, q, n, b, g, t, s0, s1⟩ := id I
  by_cases ha : 0 ≤ a1 ∧ a1 < 2
  · rcases zShf_a I ha with ⟨y1, y2⟩ | ⟨q, V2, y1, y2, y3, y4, y5, y6⟩
    · exact e_back (q := p) (d := 192) h (fun x => absurd ha x) (fun _ _ => e12_back (q := p) (Q := Q) (d := 192) (fun x => absurd ha x) (fun _ _ => ⟨rfl, zI_f I (fun _ _ _ => rfl) (fun _ _ _ => rfl)⟩) (fun _ x => absurd y2 x) (fun _ x => absurd y2 x)) (fun _ x => absurd y1 x) (fun _ x => absurd y1 x)
    · refine e_back (q := q) (d := 192) h (fun x => absurd ha x) (fun _ x => by rw [y5.1] at x; cases x) (fun _ _ => ⟨y1, y4, y5⟩) (fun _ _ m1 f1 z1 z2 z3 c1 h1 => ?_)
      have e : m1 119 a1 = 1 := by rw [f1 119 a1 (by omega)]; exact y6.1
      refine e12_back (q := psW q V2) (Q := Q) (d := 192) (fun x => absurd ha x) (fun _ x => by rw [e] at x; cases x) (fun _ _ => ⟨y3, zSM_fr y6 y3.1 (fun x i w => f1 x i (by omega))⟩) (fun _ _ m2 f2 c2 h2 => ⟨rfl, zI_end (p' := q) (V' := V2) (Q' := Q) t s0 s1 (fun x i w => f1 x i (by omega)) (fun i w => by rw [show m1 7 = pS q from c1.1.1.2.1]; exact (y4 i w).symm) (fun x i w => f2 x i (by omega) (by omega) (by omega)) y1 y2 y3 c1 c2 h1 h2 (fun i i0 i1 => by omega) (fun z => absurd z1 z) (fun z => absurd z2 z) (fun z => absurd z3 z)⟩)
  · exact e_back (q := p) (d := 192) h (fun _ => e12_back (q := p) (Q := Q) (d := 192) (fun _ => ⟨rfl, zI_f I (fun _ _ _ => rfl) (fun _ _ _ => rfl)⟩) (fun x => absurd x ha) (fun x => absurd x ha) (fun x => absurd x ha)) (fun x => absurd x ha) (fun x => absurd x ha) (fun x => absurd x ha)
end OM
theorem op_all_ok : op_all z_Inv z_Inv := ⟨opq_feed, opq_end, opq_solid, opq_hinge, opq_cut, opq_root, opq_weigh, opq_span, opq_tree, opq_trade, opq_mend, opq_seek, opq_undo, opq_keep, opq_back, opq_face, opq_side, opq_edge, opq_corner, opq_vertex, opq_place, opq_over, opq_box, opq_part, opq_way, opq_free, opq_rim, opq_gluings, opq_glued, opq_lacks, opq_itself, opq_outline, opq_alike, opq_best, opq_count⟩

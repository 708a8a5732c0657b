/-! SHELVES: alike -/
def zsam (p q : zP) : Prop := pF p = pF q ∧ ∀ j, 0 ≤ j → j < pF p → zou p 8 j = zou q 8 j
noncomputable def zaK (p q : zP) : Int := if zpd (zNet p ∧ zNet q) = true then zi (zpd (zsam p q)) else -2
section AK
variable {a n c v n0 r0 k : Int} {A B : Int → Int} {p q : zP} {Q : Int → zP} {μ μ0 : z_Mem} {d : Nat} {K : Int → z_Mem → Prop} {Kn : z_Mem → Prop}
theorem zaK_1 (h : zNet p ∧ zNet q) (hs : zsam p q) : zaK p q = 1 := by
  unfold zaK
  rw [if_pos (zpd_t h), zpd_t hs]
  rfl
theorem zaK_0 (h : zNet p ∧ zNet q) (hs : ¬ zsam p q) : zaK p q = 0 := by
  unfold zaK
  rw [if_pos (zpd_t h), zpd_f hs]
  rfl
theorem zaK_n (h : ¬ (zNet p ∧ zNet q)) : zaK p q = -2 := by
  unfold zaK
  rw [if_neg (by rw [zpd_f h]; decide)]
theorem e_same (hr0 : z_kd r0 = 14 ∧ z_ln r0 = 30) (hn : n ≤ 30) (h75 : μ 75 0 = n) (h1 : n = c → (∀ j, 0 ≤ j → j < n → μ 76 j = μ r0 j) → K 1 μ) (h0 : ¬ (n = c ∧ ∀ j, 0 ≤ j → j < n → μ 76 j = μ r0 j) → K 0 μ) : z_ci m_X8_isSame [(2, 75), (2, r0), (0, c)] μ d K := by
  refine V_X8_isSame hr0 ⟨fun q => ?_, fun q => h0 (fun w => by omega)⟩
  have key : ∀ i, 0 ≤ i → i ≤ max n 0 → (∀ j, 0 ≤ j → j < i → μ 76 j = μ r0 j) → z_ri m_X8_isSame 12 [some (2, 75), some (2, r0), none, some (0, i)] μ d K := by
    refine z_up (fun i i0 i1 ih hm => V_X8_isSame_12 hr0 ⟨fun w => h1 (by omega) (fun j j0 j1 => hm j j0 (by omega)), fun w => ⟨⟨by omega, by omega⟩, ⟨by omega, by omega⟩, fun e => ⟨⟨by omega, by omega⟩, ih (by omega) (fun j j0 j1 => ?_)⟩, fun e => h0 (fun x => e (x.2 i i0 (by omega)))⟩⟩)
    by_cases w : j = i
    · rw [w]
      exact e
    · exact hm j j0 (by omega)
  exact key 0 (by omega) (by omega) (fun j j0 j1 => by omega)
theorem e_alike (hv : zV p) (hc : zCn' μ p) (h0 : ¬ (0 ≤ a ∧ a < 2) → K (-1) μ) (h1 : 0 ≤ a ∧ a < 2 → μ (103 + 5 * a) 0 = 0 → K (-1) μ) (hs : 0 ≤ a ∧ a < 2 → ¬ μ (103 + 5 * a) 0 = 0 → zV q ∧ zSC μ (103 + 5 * a) q) (h2 : 0 ≤ a ∧ a < 2 → ¬ μ (103 + 5 * a) 0 = 0 → ∀ m, (∀ x i, ¬ (x = 75 ∧ i = 0) → (x < 76 ∨ 79 < x) → m x i = μ x i) → K (zaK p q) m) : z_ci m_X11_alike [(2, 1), (0, a)] μ (d + 8) K := by
  have F0 : 0 ≤ pF p ∧ pF p ≤ 30 := (zV_sk hv).1
  refine V_X11_alike (e_isShelf (fun w => zy0' (h0 w)) (fun w => zy1' ⟨(by first | omega | exact ⟨by omega, by omega⟩), fun w2 => ?_, fun w2 => h1 w w2⟩))
  obtain ⟨hvq, hsq⟩ := hs w w2
  have kk := (zkdS w).2.2.2
  have Fq : 0 ≤ pF q ∧ pF q ≤ 30 := (zV_sk hvq).1
  have fin := h2 w w2
  generalize ho : 103 + 5 * a = o at kk w2 hsq
  have oo : 103 ≤ o := by omega
  refine e_netFaces hv hc (fun hn => ?_) (fun hn => ?_)
  · refine e_draw hv (zCn_Q hv hc).1 (Or.inr ⟨hn.1, rfl⟩) (fun m fm e1 e2 => ?_)
    have Fp := hn.1.1
    obtain ⟨s1, s2, s3, s4, s5, s6⟩ := zSC_fr (m := m) hsq (fun x i _ _ => fm x i (by omega) (by omega))
    refine ⟨(by first | omega | exact ⟨by omega, by omega⟩), fun z => by omega, fun z => ⟨fun z2 => ?_, fun z2 => ?_⟩⟩
    · have hq : zNet q := Classical.byContradiction fun x => z2 (s6 x)
      obtain ⟨t1, t2⟩ := s5 hq
      have al : (m o 4 = pF p ∧ ∀ j, 0 ≤ j → j < pF p → m 76 j = m (o + 4) j) ↔ zsam p q := by
        constructor
        · rintro ⟨x1, x2⟩
          refine ⟨by omega, fun j j0 j1 => ?_⟩
          rw [← e2 Fp j j0 j1, x2 j j0 j1]
          exact t2 j j0 (by omega)
        · rintro ⟨x1, x2⟩
          refine ⟨by omega, fun j j0 j1 => ?_⟩
          rw [e2 Fp j j0 j1, x2 j j0 j1]
          exact (t2 j j0 (by omega)).symm
      refine e_same (n := pF p) kk (by omega) e1 (fun x1 x2 => zy1' ?_) (fun x => zy0' ?_)
      · have := fin m fm
        rw [zaK_1 ⟨hn, hq⟩ (al.mp ⟨x1.symm, x2⟩)] at this
        exact this
      · have := fin m fm
        rw [zaK_0 ⟨hn, hq⟩ (fun y => x ⟨(al.mpr y).1.symm, (al.mpr y).2⟩)] at this
        exact this
    · have hq : ¬ zNet q := fun x => by
        have := (s5 x).1
        have := x.1.1
        omega
      have := fin m fm
      rw [zaK_n (fun x => hq x.2)] at this
      exact this
  · refine e_draw hv (zCn_Q hv hc).1 (Or.inl rfl) (fun m fm e1 e2 => ?_)
    have := fin m fm
    rw [zaK_n (fun x => hn x.1)] at this
    exact ⟨(by first | omega | exact ⟨by omega, by omega⟩), fun _ => this, fun z => absurd e1 z⟩
def zfK (μ m : z_Mem) : Prop := ∀ x i, x ≠ 114 → x ≠ 116 → (x < 121 ∨ 137 < x) → x ≠ 145 → x ≠ 146 → x ≠ 147 → ¬ (x = 113 ∧ 21 ≤ i ∧ i ≤ 23) → m x i = μ x i
theorem e12_alike (hv : zV p) (hc : zMn' μ p) (h0 : ¬ (0 ≤ a ∧ a < 2) → K (-1) μ) (h1 : 0 ≤ a ∧ a < 2 → μ 119 a = 0 → K (-1) μ) (hs : 0 ≤ a ∧ a < 2 → ¬ μ 119 a = 0 → zV q ∧ zSM μ a q) (h2 : 0 ≤ a ∧ a < 2 → ¬ μ 119 a = 0 → ∀ m, zfK μ m → zMn' m p → K (zaK p q) m) : z_ci m_X12_alike [(2, 113), (0, a)] μ (d + 12) K := by
  have F0 : 0 ≤ pF p ∧ pF p ≤ 30 := (zV_sk hv).1
  refine V_X12_alike (e_in (fun w => zy0' (h0 (by omega))) (fun w => zy1' ⟨(by first | omega | exact ⟨by omega, by omega⟩), fun w2 => ?_, fun w2 => h1 (by omega) w2⟩))
  obtain ⟨hvq, hsq⟩ := hs (by omega) w2
  have Fq : 0 ≤ pF q ∧ pF q ≤ 30 := (zV_sk hvq).1
  have fin := h2 (by omega) w2
  -- the end: laid back
  have back : ∀ (m : z_Mem) (is v : Int), zfK μ m → zRwM m 116 0 p → (v = 0 ∨ v = 1) → (v = 0 → zaK p q = -2) → (v = 1 → zaK p q = is ∧ (is = 0 ∨ is = 1)) → z_cn m_X12_moves [(2, 116), (0, 0), (2, 114), (0, 0)] m (d + 11) (fun m3 => z_cn m_X12_laysSkin [(2, 113)] m3 (d + 11) (fun m5 => (v = 0 → K (-2) m5) ∧ (¬ v = 0 → z_ci m_X12_truth [(0, is)] m5 (d + 11) K))) := fun m is v fm r hvv g0 g1 => by
    refine e_moves zk116 zk114 (by decide) (by omega) (by omega) (by decide) ?_
    have r3 : zRwM (z_cpy m 116 0 114 0 143) 114 0 p := zRwM_cpy (o2 := 114) (b2 := 0) r hv.1
    refine e12_laysSkin (zRwM_Ns r3 hv) hv.2.2.1 (fun m5 f5 c5 => ?_)
    have c : zMn' m5 p := ⟨c5, zRwM_fr r3 hv.1 (fun i _ _ => f5 114 i (by omega) (by omega))⟩
    have f : zfK μ m5 := fun x i a1 a2 a3 a4 a5 a6 a7 => by
      rw [f5 x i (by omega) a7, z_cpy_ne a1]
      exact fm x i a1 a2 a3 a4 a5 a6 a7
    have ff := fin m5 f c
    refine ⟨fun z => ?_, fun z => ?_⟩
    · rw [g0 z] at ff
      exact ff
    · obtain ⟨g2, g3⟩ := g1 (by omega)
      rw [g2] at ff
      rcases g3 with rfl | rfl
      · exact V_X12_truth ⟨fun _ => ff, fun x => absurd rfl x⟩
      · exact V_X12_truth ⟨fun x => absurd x (by decide), fun _ => ff⟩
  -- the comparing
  have cmp : ∀ (m : z_Mem), zfK μ m → zRwM m 116 0 p → zNet p ∧ zNet q → (∀ j, 0 ≤ j → j < pF p → m 147 j = zou p 8 j) → (∀ j, 0 ≤ j → j < pF q → m 146 j = zou q 8 j) → ∀ k, 0 ≤ k → k ≤ pF p → ∀ is : Int, ((is = 1 ∧ pF p = pF q ∧ ∀ j, 0 ≤ j → j < k → zou p 8 j = zou q 8 j) ∨ (is = 0 ∧ ¬ zsam p q)) → z_ri m_X12_alike 135 [some (2, 113), none, none, some (0, pF p), some (0, 1), some (0, is), some (0, k)] m (d + 12) K := fun m fm r hn hA hB => by
    refine z_up (fun k k0 k1 ih is hi => V_X12_alike_135 ⟨fun q1 => ?_, fun q2 => ⟨fun q3 => ?_, fun q4 => ⟨⟨by omega, by omega⟩, ⟨by omega, by omega⟩, fun q5 => ⟨⟨by omega, by omega⟩, ?_⟩, fun q6 => ⟨⟨by omega, by omega⟩, ?_⟩⟩⟩⟩)
    · refine back m is 1 fm r (Or.inr rfl) (fun x => absurd x (by decide)) (fun _ => ?_)
      rcases hi with ⟨rfl, e, x⟩ | ⟨rfl, x⟩
      · exact ⟨zaK_1 hn ⟨e, fun j j0 j1 => x j j0 (by omega)⟩, Or.inr rfl⟩
      · exact ⟨zaK_0 hn x, Or.inl rfl⟩
    · refine back m is 1 fm r (Or.inr rfl) (fun x => absurd x (by decide)) (fun _ => ?_)
      rcases hi with ⟨rfl, e, x⟩ | ⟨rfl, x⟩
      · exact absurd q3 (by decide)
      · exact ⟨zaK_0 hn x, Or.inl rfl⟩
    · rcases hi with ⟨rfl, e, x⟩ | ⟨rfl, x⟩
      · refine ih q2 0 (Or.inr ⟨rfl, fun y => q5 ?_⟩)
        rw [hA k k0 q2, hB k k0 (by omega)]
        exact y.2 k k0 q2
      · exact absurd rfl q4
    · rcases hi with ⟨rfl, e, x⟩ | ⟨rfl, x⟩
      · refine ih q2 1 (Or.inl ⟨rfl, e, fun j j0 j1 => ?_⟩)
        by_cases y : j = k
        · rw [y, ← hA k k0 q2, ← hB k k0 (by omega)]
          exact q6
        · exact x j j0 (by omega)
      · exact absurd rfl q4
  -- the middle: that of the shelf is laid
  have mid : ∀ (m : z_Mem) (one : Int), zfK μ m → zMn' m p → (one = 0 ∧ ¬ zNet p ∨ one = 1 ∧ zNet p ∧ ∀ j, 0 ≤ j → j < pF p → m 146 j = zou p 8 j) → ∀ k, 0 ≤ k → k ≤ pF p → ∀ m2 : z_Mem, (∀ x i, x ≠ 147 → m2 x i = m x i) → (∀ j, 0 ≤ j → j < k → m2 147 j = m 146 j) → z_ri m_X12_alike 34 [some (2, 113), some (0, a), some (0, one), some (0, pF p), some (0, k), none, none] m2 (d + 12) K := fun m one fm hcm ho => by
    refine z_up (fun k k0 k1 ih m2 f2 h2 => V_X12_alike_34 ⟨fun q1 => ?_, fun q2 => ⟨⟨by omega, by omega⟩, ⟨by omega, by omega⟩, ⟨by omega, by omega⟩, ?_⟩⟩)
    · refine e_moves zk114 zk116 (by decide) (by omega) (by omega) (by decide) ⟨(by first | omega | exact ⟨by omega, by omega⟩), ?_⟩
      refine e_moves zk118 zk114 (by decide) (by omega) (by omega) (by decide) ?_
      generalize hm3 : z_cpy (z_cpy m2 114 0 116 0 143) 118 (143 * a) 114 0 143 = m3
      have g3 : ∀ x i, x ≠ 114 → x ≠ 116 → m3 x i = m2 x i := fun x i w1 w2 => by rw [← hm3, z_cpy_ne w1, z_cpy_ne w2]
      have rp : zRwM m3 116 0 p := by
        have t := zRwM_fr (m' := m2) hcm.2 hv.1 (fun i _ _ => f2 114 i (by decide))
        refine zRwM_fr (zRwM_cpy (o2 := 116) (b2 := 0) t hv.1) hv.1 (fun i _ _ => ?_)
        rw [← hm3, z_cpy_ne (by decide)]
      have rq : zRwM m3 114 0 q := by
        have t : zRwM (z_cpy m2 114 0 116 0 143) 118 (143 * a) q := zRwM_fr hsq.2 hvq.1 (fun i _ _ => by
          rw [z_cpy_ne (by decide), f2 118 i (by decide)]
          exact fm 118 i (by decide) (by decide) (by decide) (by decide) (by decide) (by decide) (by omega))
        have t2 := zRwM_cpy (o2 := 114) (b2 := 0) t hvq.1
        rw [hm3] at t2
        exact t2
      refine e12_laysSkin (zRwM_Ns rq hvq) hvq.2.2.1 (fun m7 f7 c7 => ?_)
      have C7 : zMn' m7 q := ⟨c7, zRwM_fr rq hvq.1 (fun i _ _ => f7 114 i (by omega) (by omega))⟩
      have R7 : zRwM m7 116 0 p := zRwM_fr rp hv.1 (fun i _ _ => f7 116 i (by omega) (by omega))
      have F7 : zfK μ m7 := fun x i a1 a2 a3 a4 a5 a6 a7 => by
        rw [f7 x i (by omega) a7, g3 x i a1 a2, f2 x i a6]
        exact fm x i a1 a2 a3 a4 a5 a6 a7
      have o7 : ∀ j, m7 147 j = m2 147 j := fun j => by rw [f7 147 j (by decide) (by omega), g3 147 j (by decide) (by decide)]
      have none : ∀ m8, zfK μ m8 → zRwM m8 116 0 p → ¬ (zNet p ∧ zNet q) → z_ri m_X12_alike 135 [some (2, 113), none, none, some (0, pF p), some (0, 0), some (0, 0), some (0, 0)] m8 (d + 12) K := fun m8 f8 r8 hn => by
        have b := back m8 0 0 f8 r8 (Or.inl rfl) (fun _ => zaK_n hn) (fun x => absurd x (by decide))
        exact V_X12_alike_135 ⟨fun _ => b, fun _ => ⟨fun _ => b, fun x => absurd rfl x⟩⟩
      refine ⟨fun z => none m7 F7 R7 (fun y => ?_), fun z => ?_⟩
      · rcases ho with x | x
        · exact x.2 y.1
        · omega
      · have ho1 : zNet p ∧ ∀ j, 0 ≤ j → j < pF p → m 146 j = zou p 8 j := by
          rcases ho with x | x
          · omega
          · exact x.2
        refine e12_laysOutline hvq C7 (fun hn m8 f8 => zy0' (none m8 ?_ ?_ (fun y => hn y.2))) (fun hw hz m8 f8 h8 => zy1' ?_)
        · exact fun x i a1 a2 a3 a4 a5 a6 a7 => by
            rw [f8 x i (by omega) (by omega) a4 a5]
            exact F7 x i a1 a2 a3 a4 a5 a6 a7
        · exact zRwM_fr R7 hv.1 (fun i _ _ => f8 116 i (by decide) (by decide) (by decide) (by decide))
        · have F8 : zfK μ m8 := fun x i a1 a2 a3 a4 a5 a6 a7 => by
            rw [f8 x i (by omega) (by omega) a4 a5]
            exact F7 x i a1 a2 a3 a4 a5 a6 a7
          have R8 : zRwM m8 116 0 p := zRwM_fr R7 hv.1 (fun i _ _ => f8 116 i (by decide) (by decide) (by decide) (by decide))
          have e21 : m8 113 21 = pF q := by
            rw [f8 113 21 (by decide) (by decide) (by decide) (by decide)]
            exact (zMK_G C7.1).1
          have A8 : ∀ j, 0 ≤ j → j < pF p → m8 147 j = zou p 8 j := fun j j0 j1 => by
            rw [f8 147 j (by decide) (by decide) (by decide) (by decide), o7 j, h2 j j0 (by omega)]
            exact ho1.2 j j0 j1
          have nn : zNet p ∧ zNet q := ⟨ho1.1, hw, hz⟩
          rw [e21]
          refine ⟨fun x => cmp m8 F8 R8 nn A8 h8 0 (by omega) (by omega) 0 (Or.inr ⟨rfl, fun y => x y.1⟩), fun x => cmp m8 F8 R8 nn A8 h8 0 (by omega) (by omega) 1 (Or.inl ⟨rfl, x, fun j j0 j1 => by omega⟩)⟩
    · refine ih q2 _ (fun x i w => by rw [z_st_ne w]; exact f2 x i w) (fun j j0 j1 => ?_)
      by_cases y : j = k
      · rw [y, z_st_eq]
        exact f2 146 k (by decide)
      · rw [z_st_ni y]
        exact h2 j j0 (by omega)
  have F1 : ∀ m : z_Mem, (∀ o i, (o < 130 ∨ 132 < o) → (o < 135 ∨ 137 < o) → o ≠ 145 → o ≠ 146 → m o i = μ o i) → zfK μ m ∧ zMn' m p ∧ m 113 21 = pF p := fun m f1 => by
    have c := zMn_fr (m := m) hc hv.1 (fun x i w => f1 x i (by omega) (by omega) (by omega) (by omega))
    exact ⟨fun x i a1 a2 a3 a4 a5 a6 a7 => f1 x i (by omega) (by omega) a4 a5, c, (zMK_G c.1).1⟩
  refine e12_laysOutline hv hc (fun hn m f1 => ?_) (fun hw hz m f1 h1 => ?_)
  · obtain ⟨x1, x2, x3⟩ := F1 m f1
    rw [x3]
    exact mid m 0 x1 x2 (Or.inl ⟨rfl, hn⟩) 0 (by omega) (by omega) m (fun _ _ _ => rfl) (fun j j0 j1 => by omega)
  · obtain ⟨x1, x2, x3⟩ := F1 m f1
    rw [x3]
    exact mid m 1 x1 x2 (Or.inr ⟨rfl, ⟨hw, hz⟩, h1⟩) 0 (by omega) (by omega) m (fun _ _ _ => rfl) (fun j j0 j1 => by omega)
end AK

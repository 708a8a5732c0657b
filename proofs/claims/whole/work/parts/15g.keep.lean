/-! SHELVES: keep, back -/
def zSC (m : z_Mem) (o : Int) (p : zP) : Prop := m o 0 = 1 ∧ m o 1 = pn p ∧ (∀ i, 0 ≤ i → i < 21 → m (o + 1) i = pS p i) ∧ zRwC m (o + 2) p ∧ (zNet p → m o 4 = pF p ∧ ∀ j, 0 ≤ j → j < pF p → m (o + 4) j = zou p 8 j) ∧ (¬ zNet p → m o 4 = 0)
def zSM (m : z_Mem) (a : Int) (p : zP) : Prop := m 119 a = 1 ∧ zRwM m 118 (143 * a) p
section SH
variable {a n n0 r0 k : Int} {A B : Int → Int} {p q : zP} {Q : Int → zP} {μ μ0 : z_Mem} {d : Nat} {K : Int → z_Mem → Prop} {Kn : z_Mem → Prop}
theorem zk116 : z_kd 116 = 14 ∧ z_ln 116 = 143 := by constructor <;> decide +kernel
theorem zk118 : z_kd 118 = 14 ∧ z_ln 118 = 286 := by constructor <;> decide +kernel
theorem zkdS (h : 0 ≤ a ∧ a < 2) : z_kd (103 + 5 * a) = 7 ∧ z_kd (103 + 5 * a + 2) = 3 ∧ (z_kd (103 + 5 * a + 1) = 14 ∧ z_ln (103 + 5 * a + 1) = 21) ∧ z_kd (103 + 5 * a + 4) = 14 ∧ z_ln (103 + 5 * a + 4) = 30 := by
  rcases (by omega : a = 0 ∨ a = 1) with rfl | rfl <;> decide +kernel
theorem zSC_fr {m : z_Mem} {o : Int} (h : zSC μ o p) (hf : ∀ x i, o ≤ x → x ≤ o + 4 → m x i = μ x i) : zSC m o p := by
  obtain ⟨h1, h2, h3, h4, h5, h6⟩ := h
  refine ⟨by rw [hf o 0 (by omega) (by omega)]; exact h1, by rw [hf o 1 (by omega) (by omega)]; exact h2, fun i i0 i1 => by rw [hf (o + 1) i (by omega) (by omega)]; exact h3 i i0 i1, zRwC_fr h4 (fun x i w => hf x i (by omega) (by omega)), fun w => ⟨by rw [hf o 4 (by omega) (by omega)]; exact (h5 w).1, fun j j0 j1 => by rw [hf (o + 4) j (by omega) (by omega)]; exact (h5 w).2 j j0 j1⟩, fun w => by rw [hf o 4 (by omega) (by omega)]; exact h6 w⟩
theorem zSM_fr {m : z_Mem} (h : zSM μ a p) (hn : 0 ≤ pn p ∧ pn p ≤ 7) (hf : ∀ x i, x = 118 ∨ x = 119 → m x i = μ x i) : zSM m a p :=
  ⟨by rw [hf 119 a (by omega)]; exact h.1, zRwM_fr h.2 hn (fun i _ _ => hf 118 i (by omega))⟩
theorem e_keep (hv : zV p) (hc : zCn' μ p) (h0 : ¬ (0 ≤ a ∧ a < 2) → K (-1) μ) (h1 : 0 ≤ a ∧ a < 2 → ∀ m, (∀ x i, (x < 103 + 5 * a ∨ 103 + 5 * a + 4 < x) → ¬ (x = 75 ∧ i = 0) → (x < 76 ∨ 79 < x) → m x i = μ x i) → zSC m (103 + 5 * a) p → K (zhm (pH p)) m) : z_ci m_X11_keep [(2, 1), (0, a)] μ (d + 4) K := by
  have F0 : 0 ≤ pF p ∧ pF p ≤ 30 := (zV_sk hv).1
  refine V_X11_keep (e_isShelf (fun w => zy0 (h0 w)) (fun w => zy1 ?_))
  obtain ⟨k1, k2, k3, k4⟩ := zkdS w
  generalize ho : 103 + 5 * a = o at k1 k2 k3 k4 h1
  have oo : 103 ≤ o := by omega
  have go : ∀ m : z_Mem, (∀ x i, ¬ (x = 75 ∧ i = 0) → (x < 76 ∨ 79 < x) → m x i = μ x i) → (zNet p → m 75 0 = pF p ∧ ∀ j : Int, 0 ≤ j → j < pF p → m 76 j = zou p 8 j) → (¬ zNet p → m 75 0 = 0) → z_cn m_X7_store [(2, o), (2, 6), (2, 21), (2, 75)] m (d + 3) (fun m11 => z_ci m_X3_howMany [(2, 21)] m11 (d + 3) (fun x m => K x m)) := fun m fm hn1 hn0 => by
    have c := zCn_fr (m := m) hc (fun x i w => fm x i (by omega) (by omega))
    refine V_X7_store k1 ?_
    rw [z_st_ne (show (6 : Int) ≠ o by omega)]
    generalize hm1 : z_cpy (z_st (z_st m o 0 1) o 1 (m 6 0)) 7 0 (o + 1) 0 21 = m1
    have g1 : ∀ x i, ¬ (x = o ∧ (i = 0 ∨ i = 1)) → x ≠ o + 1 → m1 x i = m x i := fun x i w1 w2 => by
      rw [← hm1, z_cpy_ne w2, z_st_nx (by omega), z_st_nx (by omega)]
    have s0 : m1 o 0 = 1 := by rw [← hm1, z_cpy_ne (by omega), z_st_ni (by decide), z_st_eq]
    have s1 : m1 o 1 = pn p := by
      rw [← hm1, z_cpy_ne (by omega), z_st_eq]
      exact c.1.1.1
    have s2 : ∀ i, 0 ≤ i → i < 21 → m1 (o + 1) i = pS p i := fun i i0 i1 => by
      rw [← hm1, z_cpy_in (by omega), show 0 + (i - 0) = i by omega, z_st_ne (by omega), z_st_ne (by omega), c.1.1.2.1]
    refine e_copy (p := p) k2 zkd21 ⟨by omega, by omega, by omega⟩ (zRwC_fr c.2.1 (fun x i w => g1 x i (by omega) (by omega))) (fun m2 f2 r2 => ?_)
    have e75 : m2 75 0 = m 75 0 := by rw [f2 75 0 (by omega) (by omega)]; exact g1 75 0 (by omega) (by omega)
    rw [e75]
    generalize hm3 : z_cpy (z_st m2 o 4 (m 75 0)) 76 0 (o + 4) 0 30 = m3
    have g3 : ∀ x i, ¬ (x = o ∧ i = 4) → x ≠ o + 4 → m3 x i = m2 x i := fun x i w1 w2 => by
      rw [← hm3, z_cpy_ne w2, z_st_nx w1]
    have all : ∀ x i, (x < o ∨ o + 4 < x) → m3 x i = m x i := fun x i w => by
      rw [g3 x i (by omega) (by omega), f2 x i (by omega) (by omega), g1 x i (by omega) (by omega)]
    have c3 := zCn_fr (m := m3) c (fun x i w => all x i (by omega))
    refine e_howMany zkd21 c3.2.1.1 (h1 w m3 (fun x i w1 w2 w3 => by rw [all x i w1]; exact fm x i w2 w3) ?_)
    have s4 : m3 o 4 = m 75 0 := by rw [← hm3, z_cpy_ne (by omega), z_st_eq]
    refine ⟨by rw [g3 o 0 (by omega) (by omega), f2 o 0 (by omega) (by omega)]; exact s0, by rw [g3 o 1 (by omega) (by omega), f2 o 1 (by omega) (by omega)]; exact s1, fun i i0 i1 => by rw [g3 _ i (by omega) (by omega), f2 _ i (by omega) (by omega)]; exact s2 i i0 i1, zRwC_fr r2 (fun x i w => g3 x i (by omega) (by omega)), fun w => ⟨by rw [s4]; exact (hn1 w).1, fun j j0 j1 => ?_⟩, fun w => by rw [s4]; exact hn0 w⟩
    rw [← hm3, z_cpy_in (by omega), show 0 + (j - 0) = j by omega, z_st_ne (by omega), f2 76 j (by omega) (by omega), g1 76 j (by omega) (by omega)]
    exact (hn1 w).2 j j0 j1
  refine e_netFaces hv hc (fun hn => ?_) (fun hn => ?_)
  · refine e_draw hv (zCn_Q hv hc).1 (Or.inr ⟨hn.1, rfl⟩) (fun m fm e1 e2 => ⟨(by first | omega | exact ⟨by omega, by omega⟩), ?_⟩)
    exact go m fm (fun _ => ⟨e1, fun j j0 j1 => e2 hn.1.1 j j0 j1⟩) (fun x => absurd hn x)
  · refine e_draw hv (zCn_Q hv hc).1 (Or.inl rfl) (fun m fm e1 e2 => ⟨(by first | omega | exact ⟨by omega, by omega⟩), ?_⟩)
    exact go m fm (fun x => absurd x hn) (fun _ => e1)
theorem e12_keep (hv : zV p) (hc : zMn' μ p) (h0 : ¬ (0 ≤ a ∧ a < 2) → K (-1) μ) (h1 : 0 ≤ a ∧ a < 2 → ∀ m, (∀ x i, ¬ (x = 118 ∧ 143 * a ≤ i ∧ i < 143 * a + 143) → ¬ (x = 119 ∧ i = a) → m x i = μ x i) → zSM m a p → K (zhm (pH p)) m) : z_ci m_X12_keep [(2, 113), (0, a)] μ (d + 4) K := by
  have F0 : 0 ≤ pF p ∧ pF p ≤ 30 := (zV_sk hv).1
  refine V_X12_keep (e_in (fun w => zy0 (h0 (by omega))) (fun w => zy1 ⟨(by first | omega | exact ⟨by omega, by omega⟩), ?_⟩))
  refine e_moves zk114 zk118 (by decide) (by omega) (by omega) (by decide) ⟨(by first | omega | exact ⟨by omega, by omega⟩), ?_⟩
  generalize hm1 : z_st (z_cpy μ 114 0 118 (143 * a) 143) 119 a 1 = m1
  have g1 : ∀ x i, ¬ (x = 118 ∧ 143 * a ≤ i ∧ i < 143 * a + 143) → ¬ (x = 119 ∧ i = a) → m1 x i = μ x i := fun x i w1 w2 => by
    rw [← hm1, z_st_nx w2]
    by_cases w3 : x = 118
    · rw [z_cpy_out (by omega)]
    · rw [z_cpy_ne w3]
  have c := zMn_fr (m := m1) hc hv.1 (fun x i w => g1 x i (by omega) (by omega))
  refine e12_hinges F0 (zMK_G c.1).2.1 (zRwM_H c.2) ?_
  rw [← zhm_eq hv]
  refine h1 (by omega) m1 g1 ⟨by rw [← hm1, z_st_eq], ?_⟩
  refine zRwM_fr (zRwM_cpy (o2 := 118) (b2 := 143 * a) hc.2 hv.1) hv.1 (fun i _ _ => ?_)
  rw [← hm1, z_st_ne (by decide)]
theorem e_make' (hr0 : z_kd r0 = 14 ∧ z_ln r0 = n0) (h21 : 21 ≤ n0) (hne : r0 ≠ 6 ∧ r0 ≠ 7) (ha : 0 ≤ n ∧ n ≤ 7) (h6 : z_c6 (μ0 r0) (3 * n)) (hst : zSt (μ0 r0) n) (hk : ∀ m s, (∀ o i, o < 6 ∨ 16 < o → m o i = μ0 o i) → (∀ i, s i = if 0 ≤ i ∧ i < 21 then μ0 r0 i else μ0 7 i) → zCK m s n → Kn m) : z_cn m_X9_make [(2, 6), (2, r0), (0, n)] μ0 (d + 4) Kn := by
  refine V_X9_make hr0 ⟨by omega, ?_⟩
  rw [show min n 7 = n by omega]
  generalize hm0 : z_cpy (z_st μ0 6 0 n) r0 0 7 0 21 = m0
  have f0 : ∀ o i, ¬ (o = 6 ∧ i = 0) → o ≠ 7 → m0 o i = μ0 o i := fun o i a b => by
    rw [← hm0, z_cpy_ne b, z_st_nx a]
  have g0 : m0 6 0 = n := by rw [← hm0, z_cpy_ne (by decide), z_st_eq]
  have ex : ∀ i, m0 7 i = if 0 ≤ i ∧ i < 21 then μ0 r0 i else μ0 7 i := fun i => by
    by_cases w : 0 ≤ i ∧ i < 21
    · rw [if_pos w, ← hm0, z_cpy_in (by omega), show 0 + (i - 0) = i by omega]
      exact z_st_ne hne.1
    · rw [if_neg w, ← hm0, z_cpy_out (by omega), z_st_ne (by decide)]
  have ag : z_ag (m0 7) (μ0 r0) (3 * n) := fun j j0 j1 => by
    rw [ex j, if_pos (by omega)]
  generalize hs : m0 7 = s at ag ex
  have s6 : z_c6 s (3 * n) := fun i i0 i1 => by rw [ag i i0 i1]; exact h6 i i0 i1
  have sS := zSt_ag ag hst
  have sD := zSt_Ds sS
  have F30 := zF_30 ha sS
  have hA := zA_ac ha.1 sD
  have F0 : 0 ≤ zFs s n := (zN_r _).1
  have sk := zSK_ac ha.1 sD F30
  refine e_findFaces g0 ha hs s6 F30 (fun m1 h1 => ?_)
  have c1 := zCF_FC h1 g0 ha hs s6
  refine e_findEdges c1 sD F30 (fun m2 h2 => ?_)
  have e2 : ∀ k, 0 ≤ k → k < 4 * zFs s n → m2 11 k = zac s n k := h2.2.1
  refine e_findVertices (F := zFs s n) ⟨F0, F30⟩ hA ?_ e2 (fun m3 h3 => hk m3 s (fun o i q => ?_) ex ?_)
  · rw [h2.1 6 2 (by decide) (by decide) (by decide) (by decide) (by decide)]
    exact c1.2.2.2.2.1
  · rw [h3.1 o i (by omega) (by omega) (by omega), h2.1 o i (by omega) (by omega) (by omega) (by omega) (by omega), h1.1 o i (by omega) (by omega) (by omega) (by omega)]
    exact f0 o i (by omega) (by omega)
  · have hE := zN_E F0 hA
    refine ⟨zFC_ag c1 ?_ ?_ (fun o i a b => ?_), fun k k0 k1 => ⟨?_, ?_, ?_⟩, ?_, fun e e0 e1 => ?_, h3.2.2.1, fun v v0 v1 => h3.2.2.2 v v0 (by rw [h3.2.2.1]; exact v1)⟩
    · rw [h3.1 6 0 (by decide) (by decide) (by decide), h2.1 6 0 (by decide) (by decide) (by decide) (by decide) (by decide)]
    · rw [h3.1 6 2 (by decide) (by decide) (by decide), h2.1 6 2 (by decide) (by decide) (by decide) (by decide) (by decide)]
    · rw [h3.1 o i (by omega) (by omega) (by omega), h2.1 o i (by omega) (by omega) (by omega) (by omega) (by omega)]
    · rw [h3.1 11 k (by omega) (by decide) (by decide)]
      exact e2 k k0 k1
    · rw [h3.1 12 k (by omega) (by decide) (by decide), h2.2.2.1 k k0 k1, if_pos (by have := (hA k k0 k1).1; omega)]
      rfl
    · rw [h3.2.1 k k0 k1, if_pos (by have := zle_p (p := zph (zac s n)) (q := zps (zac s n)) ⟨k0, k1⟩; omega)]
      rfl
    · rw [h3.1 6 8 (by decide) (by decide) (by decide), h2.2.2.2.1]
      exact hE
    · obtain ⟨w1, w2, w3⟩ := sk.2.2 e e0 e1
      have := h2.2.2.2.2 (zeS s n e) w1.1 w1.2 w3
      rw [show zed (zac s n) (zeS s n e) = e from w2] at this
      rw [h3.1 13 _ (by omega) (by decide) (by decide), h3.1 13 _ (by omega) (by decide) (by decide), h3.1 14 _ (by omega) (by decide) (by decide)]
      exact this
theorem e_back (hh : zHC μ k Q) (h0 : ¬ (0 ≤ a ∧ a < 2) → K (-1) μ) (h1 : 0 ≤ a ∧ a < 2 → μ (103 + 5 * a) 0 = 0 → K (-2) μ) (hs : 0 ≤ a ∧ a < 2 → ¬ μ (103 + 5 * a) 0 = 0 → zV q ∧ (∀ i, ¬ (0 ≤ i ∧ i < 21) → μ 7 i = pS q i) ∧ zSC μ (103 + 5 * a) q) (h2 : 0 ≤ a ∧ a < 2 → ¬ μ (103 + 5 * a) 0 = 0 → ∀ m, (∀ x i, (x < 6 ∨ 101 < x) → m x i = μ x i) → m 29 0 = 0 → m 39 0 = 0 → m 44 0 = 0 → zCn' m q → zHC m 0 Q → K (zhm (pH q)) m) : z_ci m_X11_back [(2, 1), (0, a)] μ (d + 8) K := by
  refine V_X11_back (e_isShelf (fun w => zy0 (h0 w)) (fun w => zy1 ⟨(by first | omega | exact ⟨by omega, by omega⟩), fun w2 => ?_, fun w2 => h1 w w2⟩))
  obtain ⟨hv, h7, s0, s1, s2, s3, _⟩ := hs w w2
  obtain ⟨k1, k2, k3, k4⟩ := zkdS w
  rw [s1]
  have hx : ∀ i, (if 0 ≤ i ∧ i < 21 then μ (103 + 5 * a + 1) i else μ 7 i) = pS q i := fun i => by
    by_cases x : 0 ≤ i ∧ i < 21
    · rw [if_pos x]
      exact s2 i x.1 x.2
    · rw [if_neg x]
      exact h7 i x
  have n7 := hv.1
  have ag : z_ag (μ (103 + 5 * a + 1)) (pS q) (3 * pn q) := fun i i0 i1 => s2 i i0 (by omega)
  refine e_make' (n0 := 21) k3 (by decide) ⟨by omega, by omega⟩ hv.1 (fun i i0 i1 => by rw [ag i i0 i1]; exact hv.2.1 i i0 i1) (zSt_ag ag hv.2.2.1) (fun m s fm hs' c => ?_)
  have es : s = pS q := funext fun i => by rw [hs' i, hx i]
  subst es
  refine e_copy (p := q) zkd21 k2 ⟨by omega, by omega, by omega⟩ (zRwC_fr s3 (fun x i w => fm x i (by omega))) (fun m2 f2 r2 => ?_)
  refine e_forget ?_
  refine e_settle (p := q) hv (zCK_fr c (fun x i a b => by rw [z_st_ne (by omega)]; exact f2 x i (by omega) (by omega))) (zRwC_fr r2 (fun x i w => z_st_ne (by omega))) (fun m4 f4 c1 c2 c3 c4 => ?_)
  refine e_howMany zkd21 c4.2.1.1 (h2 w w2 m4 (fun x i w3 => ?_) c1 c2 c3 c4 ?_)
  · rw [f4 x i (by omega) (by omega) (by omega) (by omega), z_st_ne (by omega), f2 x i (by omega) (by omega)]
    exact fm x i (by omega)
  · have e : ∀ i, m4 80 i = z_st m2 80 0 0 80 i := fun i => f4 80 i (by omega) (by omega) (by omega) (by omega)
    have e1 : m4 80 1 = μ 80 1 := by rw [e, z_st_ni (by decide), f2 80 1 (by omega) (by omega)]; exact fm 80 1 (by omega)
    exact ⟨by rw [e, z_st_eq], by decide, by rw [e1]; exact hh.2.2.1, fun i i0 i1 => by omega⟩
theorem e12_back (h0 : ¬ (0 ≤ a ∧ a < 2) → K (-1) μ) (h1 : 0 ≤ a ∧ a < 2 → μ 119 a = 0 → K (-2) μ) (hs : 0 ≤ a ∧ a < 2 → ¬ μ 119 a = 0 → zV q ∧ zSM μ a q) (h2 : 0 ≤ a ∧ a < 2 → ¬ μ 119 a = 0 → ∀ m, (∀ x i, x ≠ 114 → (x < 121 ∨ 129 < x) → ¬ (x = 113 ∧ (i = 6 ∨ (21 ≤ i ∧ i ≤ 23))) → m x i = μ x i) → zMn' m q → zHM m 0 Q → K (zhm (pH q)) m) : z_ci m_X12_back [(2, 113), (0, a)] μ (d + 8) K := by
  refine V_X12_back (e_in (fun w => zy0 (h0 (by omega))) (fun w => zy1 ⟨(by first | omega | exact ⟨by omega, by omega⟩), fun w2 => ⟨(by first | omega | exact ⟨by omega, by omega⟩), ?_⟩, fun w2 => h1 (by omega) w2⟩))
  obtain ⟨hv, s1, s2⟩ := hs (by omega) w2
  have F0 : 0 ≤ pF q ∧ pF q ≤ 30 := (zV_sk hv).1
  refine e_moves zk118 zk114 (by decide) (by omega) (by omega) (by decide) ?_
  generalize hm1 : z_st (z_cpy μ 118 (143 * a) 114 0 143) 113 6 0 = m1
  have r1 : zRwM m1 114 0 q := zRwM_fr (zRwM_cpy (o2 := 114) (b2 := 0) s2 hv.1) hv.1 (fun i _ _ => by rw [← hm1, z_st_ne (by decide)])
  have g1 : ∀ x i, x ≠ 114 → ¬ (x = 113 ∧ i = 6) → m1 x i = μ x i := fun x i w1 w2 => by
    rw [← hm1, z_st_nx w2, z_cpy_ne w1]
  refine e12_laysSkin (zRwM_Ns r1 hv) hv.2.2.1 (fun m2 f2 c2 => ?_)
  have r2 : zRwM m2 114 0 q := zRwM_fr r1 hv.1 (fun i _ _ => f2 114 i (by omega) (by omega))
  refine e12_hinges F0 (zMK_G c2).2.1 (zRwM_H r2) ?_
  rw [← zhm_eq hv]
  refine h2 (by omega) w2 m2 (fun x i x1 x2 x3 => ?_) ⟨c2, r2⟩ ⟨?_, by decide, fun i i0 i1 => by omega⟩
  · rw [f2 x i (by omega) (by omega)]
    exact g1 x i x1 (by omega)
  · rw [f2 113 6 (by decide) (by decide), ← hm1, z_st_eq]
end SH

/-! EDGES: the class -/
theorem z_st_rd {μ : z_Mem} {o i v p j : Int} : z_st μ o i v p j = if p = o ∧ j = i then v else μ p j := rfl
section EA
variable {n a b c e : Int} {s : Int → Int} {μ μ0 : z_Mem} {d : Nat} {K : Int → z_Mem → Prop} {Kn : z_Mem → Prop}
/-- the class's cubes and FACES -/
def zFC (m : z_Mem) (s : Int → Int) (n : Int) : Prop := m 6 0 = n ∧ m 7 = s ∧ z_c6 s (3 * n) ∧ (0 ≤ n ∧ n ≤ 7) ∧ m 6 2 = zFs s n ∧ (∀ f, 0 ≤ f → f < zFs s n → m 9 f = zcu s n f ∧ m 10 f = zdi s n f) ∧ (∀ j, 0 ≤ j → j < 6 * n → m 8 j = if zfr s n j = true then zN j.toNat (zfr s n) else -1)
theorem zFC_st {m : z_Mem} {o i v : Int} (h : zFC m s n) (h6 : ¬ (o = 6 ∧ i = 0)) (h62 : ¬ (o = 6 ∧ i = 2)) (h7 : 7 ≠ o) (h8 : 8 ≠ o) (h9 : 9 ≠ o) (h10 : 10 ≠ o) : zFC (z_st m o i v) s n := by
  obtain ⟨a1, a2, a3, a4, a5, a6, a7⟩ := h
  refine ⟨?_, ?_, a3, a4, ?_, fun f f0 f1 => ?_, fun j j0 j1 => ?_⟩
  · rw [z_st_nx (by omega)]
    exact a1
  · funext j
    rw [z_st_ne h7, a2]
  · rw [z_st_nx (by omega)]
    exact a5
  · rw [z_st_ne h9, z_st_ne h10]
    exact a6 f f0 f1
  · rw [z_st_ne h8]
    exact a7 j j0 j1
theorem zCF_FC {m : z_Mem} (h : zCF μ0 m s n (6 * n.toNat)) (h0 : μ0 6 0 = n) (hn : 0 ≤ n ∧ n ≤ 7) (hs : μ0 7 = s) (h6 : z_c6 s (3 * n)) : zFC m s n := by
  obtain ⟨a1, a2, a3, a4⟩ := h
  refine ⟨?_, ?_, h6, hn, a2, fun f f0 f1 => ?_, fun j j0 j1 => ?_⟩
  · rw [a1 6 0 (by omega) (by decide) (by decide) (by decide)]
    exact h0
  · rw [← hs]
    funext i
    exact a1 7 i (by omega) (by decide) (by decide) (by decide)
  · obtain ⟨b1, b2, b3, b4⟩ := zcd hn.1 ⟨f0, f1⟩
    have := a3 (6 * zcu s n f + zdi s n f).toNat (by omega)
    rw [show (((6 * zcu s n f + zdi s n f).toNat : Nat) : Int) = 6 * zcu s n f + zdi s n f by omega] at this
    have := this b3
    rw [b4] at this
    rw [this.1, this.2]
    omega
  · have := a4 j.toNat (by omega)
    rw [show ((j.toNat : Nat) : Int) = j by omega] at this
    exact this
theorem e_slotOf (h : zFC μ s n) (hs : zsl s n a b c) (hF : zFs s n ≤ 30) (hk : K (zso s n a b c) μ) : z_ci m_X9_slotOf [(2, 6), (0, a), (0, b), (0, c)] μ (d + 1) K := by
  obtain ⟨hc, hp, hf⟩ := id hs
  have hb := hp.1
  have hb' := hp.2.1
  have hn7 := h.2.2.2.1.2
  have r := zso_r hs
  refine V_X9_slotOf ⟨⟨by omega, by omega⟩, ⟨by omega, by omega⟩, ⟨by omega, by omega⟩, ?_⟩
  rw [h.2.2.2.2.2.2 (6 * a + b) (by omega) (by omega), if_pos hf]
  have q0 := (zN_r (P := zfr s n) (6 * a + b).toNat).1
  rw [show max 0 (zN (6 * a + b).toNat (zfr s n)) = zN (6 * a + b).toNat (zfr s n) by omega]
  have q1 : zN (6 * a + b).toNat (zfr s n) < 30 := by omega
  unfold zso at hk r
  generalize zN (6 * a + b).toNat (zfr s n) = f at *
  have fin : ∀ t v, v = 4 * f + t → zsd b c = t → K v μ := fun t v h1 h2 => by
    rw [h1, ← h2]
    exact hk
  have st : ∀ t : Int, 0 ≤ t → t ≤ 3 → (∀ t', 0 ≤ t' → t' < t → ¬ zlk b t' = c) → z_ri m_X9_slotOf 20 [none, none, some (0, b), some (0, c), some (0, f), some (0, t)] μ (d + 1) K := by
    refine z_up (fun t t0 t1 ih hno => V_X9_slotOf_20 ⟨fun q => ⟨⟨by omega, by omega⟩, ⟨by omega, by omega⟩, ?_⟩, fun q => ⟨⟨by omega, by omega⟩, ⟨by omega, by omega⟩, ⟨by omega, by omega⟩, fun q3 => ⟨⟨by omega, by omega⟩, ih q (fun t' a b => ?_)⟩, fun q4 => ⟨⟨by omega, by omega⟩, ⟨by omega, by omega⟩, ?_⟩⟩⟩)
    · refine fin 3 _ rfl ?_
      unfold zsd
      rw [if_neg (hno 0 (by omega) (by omega)), if_neg (hno 1 (by omega) (by omega)), if_neg (hno 2 (by omega) (by omega))]
    · rcases (by omega : t' < t ∨ t' = t) with x | x
      · exact hno t' a x
      · rw [x]
        exact q3
    · refine fin t _ rfl ?_
      have z : zlk b t = c := q4
      rw [← z]
      exact (zlk_p ⟨hb, hb'⟩ (by omega)).2
  exact st 0 (by omega) (by omega) (fun t' a b => by omega)
theorem e_joinSide (h : zFC μ s n) (hD : zDs s n) (hF : zFs s n ≤ 30) (ha : 0 ≤ a ∧ a < 4 * zFs s n) (hk : K (zbe s n (zcu s n (a / 4)) (zdi s n (a / 4)) (zlk (zdi s n (a / 4)) (a % 4))) (z_st μ 11 a (zac s n a))) : z_ci m_X9_joinSide [(2, 6), (0, a)] μ (d + 2) K := by
  obtain ⟨a1, a2, a3, a4, a5, a6, a7⟩ := id h
  obtain ⟨g1, g2⟩ := zsl_of a4.1 ha
  obtain ⟨e1, e2⟩ := a6 (a / 4) (by omega) (by omega)
  unfold zac at hk
  have eS : ∀ D, z_S 0 ((4 * D) + (a % 4)) = zlk D (a % 4) := fun _ => rfl
  generalize zcu s n (a / 4) = c at *
  generalize zdi s n (a / 4) = D at *
  obtain ⟨hc, hp, hf⟩ := id g1
  have p1 := hp.1
  have p2 := hp.2.1
  have p3 := hp.2.2.1
  refine V_X9_joinSide ?_
  rw [e1, e2, eS]
  refine ⟨⟨by omega, by omega⟩, ⟨by omega, by omega⟩, ⟨by omega, by omega⟩, ⟨by omega, by omega⟩, ⟨by omega, by omega⟩, ?_⟩
  generalize zlk D (a % 4) = l at *
  have z3 : z_c6 (μ 7) (3 * n) := by rw [a2]; exact a3
  refine e_beside a1 a4.2 hc z3 ?_
  rw [a2]
  refine e_beside a1 a4.2 hc z3 ?_
  rw [a2]
  have go : ∀ c' d' l', zsl s n c' d' l' → zar s n c D l = zso s n c' d' l' → ∀ w, zbe s n c D l = w → z_ci m_X9_slotOf [(2, 6), (0, c'), (0, d'), (0, l')] μ (d + 1) (fun x m => ((0 : Int) ≤ a ∧ a < 120) ∧ (K w (z_st m 11 a x))) := fun c' d' l' hz he w hw => by
    refine e_slotOf h hz hF ⟨by omega, ?_⟩
    rw [← he, ← hw]
    exact hk
  refine ⟨fun q1 => ⟨fun q2 => go c l D ⟨hc, (zpp_x hp).2.2, ?_⟩ ?_ 0 ?_, fun q3 => ⟨⟨by omega, by omega⟩, go (zk s n c l (-1)) D (zx l) ?_ ?_ 1 ?_⟩⟩, fun q4 => ⟨⟨by omega, by omega⟩, ⟨by omega, by omega⟩, go (zk s n c D l) (zx l) (zx D) ?_ ?_ 2 ?_⟩⟩
  · rw [zfr_iff a4.1 ⟨by omega, hp.2.2.2.1⟩]
    exact (zk_no a4.1).mp q2
  · unfold zar
    rw [if_pos q1, if_pos q2]
  · unfold zbe
    rw [if_pos q1, if_pos q2]
  · exact zar_sl1 g1 q1 q3
  · unfold zar
    rw [if_pos q1, if_neg q3]
  · unfold zbe
    rw [if_pos q1, if_neg q3]
  · exact zar_sl2 g1 q4
  · unfold zar
    rw [if_neg q4]
  · unfold zbe
    rw [if_neg q4]
/-- the class: EDGES of sides ahead of side j are found -/
def zCE (μ0 m : z_Mem) (F : Int) (ac be : Int → Int) (j : Int) : Prop := (∀ o i, ¬ (o = 6 ∧ i = 8) → o ≠ 11 → o ≠ 12 → o ≠ 13 → o ≠ 14 → m o i = μ0 o i) ∧ (∀ k, 0 ≤ k → k < j → m 11 k = ac k) ∧ (∀ k, 0 ≤ k → k < 4 * F → m 12 k = if min k (ac k) < j then zed ac k else -1) ∧ m 6 8 = zN j.toNat (zld ac) ∧ (∀ k, 0 ≤ k → k < j → k < ac k → m 13 (2 * zed ac k) = k ∧ m 13 (2 * zed ac k + 1) = ac k ∧ m 14 (zed ac k) = be k)
theorem zed_l {ac : Int → Int} {k : Int} (h : k < ac k) : zed ac k = zN k.toNat (zld ac) := by
  unfold zed
  rw [show min k (ac k) = k by omega]
theorem zCE_no {m : z_Mem} {F j : Int} {ac be : Int → Int} (hj : 0 ≤ j ∧ j < 4 * F) (hA : ∀ k, 0 ≤ k → k < 4 * F → (0 ≤ ac k ∧ ac k < 4 * F) ∧ ac (ac k) = k ∧ ac k ≠ k) (h : zCE μ0 m F ac be j) (hn : ¬ j < ac j) : zCE μ0 (z_st m 11 j (ac j)) F ac be (j + 1) := by
  obtain ⟨h1, h2, h3, h4, h5⟩ := h
  refine ⟨fun o i a b c e f => by rw [z_st_ne b]; exact h1 o i a b c e f, fun k k0 k1 => ?_, fun k k0 k1 => ?_, ?_, fun k k0 k1 k2 => ?_⟩
  · by_cases q : k = j
    · rw [q, z_st_eq]
    · rw [z_st_ni q]
      exact h2 k k0 (by omega)
  · rw [z_st_ne (by decide), h3 k k0 k1]
    have := hA k k0 k1
    have : min k (ac k) ≠ j := by
      intro q
      rcases (by omega : k = j ∨ ac k = j) with r | r
      · rw [r] at q
        have := (hA j hj.1 hj.2).2.2
        omega
      · have e := (hA k k0 k1).2.1
        rw [r] at e q
        omega
    by_cases q : min k (ac k) < j
    · rw [if_pos q, if_pos (by omega)]
    · rw [if_neg q, if_neg (by omega)]
  · rw [z_st_ne (by decide), h4, zN_up hj.1, zi_f (by unfold zld; exact decide_eq_false hn)]
    omega
  · have : k ≠ j := fun q => hn (by rw [← q]; exact k2)
    rw [z_st_ne (by decide), z_st_ne (by decide), z_st_ne (by decide)]
    exact h5 k k0 (by omega) k2
theorem zed_inj {ac : Int → Int} {k j : Int} (hk : 0 ≤ k) (hkj : k < j) (h : k < ac k) (h2 : j < ac j) : zed ac k < zed ac j := by
  rw [zed_l h, zed_l h2]
  exact zN_lt' hk hkj (by unfold zld; exact decide_eq_true h)
theorem zCE_yes {m : z_Mem} {F j g : Int} {ac be : Int → Int} (hj : 0 ≤ j ∧ j < 4 * F) (hA : ∀ k, 0 ≤ k → k < 4 * F → (0 ≤ ac k ∧ ac k < 4 * F) ∧ ac (ac k) = k ∧ ac k ≠ k) (h : zCE μ0 m F ac be j) (hn : j < ac j) (hg : g = zed ac j) : zCE μ0 (z_st (z_st (z_st (z_st (z_st (z_st (z_st m 11 j (ac j)) 12 j g) 12 (ac j) g) 13 (2 * g) j) 13 (2 * g + 1) (ac j)) 14 g (be j)) 6 8 (g + 1)) F ac be (j + 1) := by
  obtain ⟨h1, h2, h3, h4, h5⟩ := h
  subst hg
  refine ⟨fun o i a b c e f => by rw [z_st_nx a, z_st_ne f, z_st_ne e, z_st_ne e, z_st_ne c, z_st_ne c, z_st_ne b]; exact h1 o i a b c e f, fun k k0 k1 => ?_, fun k k0 k1 => ?_, ?_, fun k k0 k1 k2 => ?_⟩
  · rw [z_st_ne (by decide), z_st_ne (by decide), z_st_ne (by decide), z_st_ne (by decide), z_st_ne (by decide), z_st_ne (by decide)]
    by_cases q : k = j
    · rw [q, z_st_eq]
    · rw [z_st_ni q]
      exact h2 k k0 (by omega)
  · rw [z_st_ne (by decide), z_st_ne (by decide), z_st_ne (by decide), z_st_ne (by decide)]
    have A := hA k k0 k1
    have J := hA j hj.1 hj.2
    by_cases q : k = ac j
    · subst q
      rw [z_st_eq, if_pos (by omega)]
      unfold zed
      rw [J.2.1, Int.min_comm]
    · rw [z_st_ni q]
      by_cases q2 : k = j
      · subst q2
        rw [z_st_eq, if_pos (by omega)]
      · rw [z_st_ni q2, z_st_ne (by decide), h3 k k0 k1]
        have : ac k ≠ j := fun r => q (by rw [← r]; exact A.2.1.symm)
        by_cases r : min k (ac k) < j
        · rw [if_pos r, if_pos (by omega)]
        · rw [if_neg r, if_neg (by omega)]
  · rw [z_st_eq, zed_l hn, zN_up hj.1, zi_t (by unfold zld; exact decide_eq_true hn)]
  · simp only [z_st_rd, Int.reduceEq, false_and, true_and, if_false]
    by_cases q : k = j
    · subst q
      rw [if_neg (by omega), if_pos rfl, if_pos rfl, if_pos rfl]
      exact ⟨rfl, rfl, rfl⟩
    · have := zed_inj k0 (by omega : k < j) k2 hn
      rw [if_neg (by omega), if_neg (by omega), if_neg (by omega), if_neg (by omega), if_neg (by omega)]
      exact h5 k k0 (by omega) k2
/-- the class's FACES and EDGES -/
def zac4 (s : Int → Int) (n : Int) (k : Int) : Int := zbe s n (zcu s n (k / 4)) (zdi s n (k / 4)) (zlk (zdi s n (k / 4)) (k % 4))
theorem zac_A (hn : 0 ≤ n) (hD : zDs s n) : ∀ k, 0 ≤ k → k < 4 * zFs s n → (0 ≤ zac s n k ∧ zac s n k < 4 * zFs s n) ∧ zac s n (zac s n k) = k ∧ zac s n k ≠ k := fun k a b => by
  obtain ⟨h1, h2, h3⟩ := zac_ok hn hD ⟨a, b⟩
  exact ⟨h1, h2, fun q => h3 (by rw [q])⟩
theorem zN_E {F : Int} {ac : Int → Int} (hF : 0 ≤ F) (hA : ∀ k, 0 ≤ k → k < 4 * F → (0 ≤ ac k ∧ ac k < 4 * F) ∧ ac (ac k) = k ∧ ac k ≠ k) : zN (4 * F).toNat (zld ac) = 2 * F := by
  have e : (((4 * F).toNat : Nat) : Int) = 4 * F := by omega
  have := zld_half (4 * F).toNat (by rw [e]; exact hA)
  omega
theorem e_findEdges (h : zFC μ0 s n) (hD : zDs s n) (hF : zFs s n ≤ 30) (hk : ∀ m, zCE μ0 m (zFs s n) (zac s n) (zac4 s n) (4 * zFs s n) → Kn m) : z_cn m_X9_findEdges [(2, 6)] μ0 (d + 3) Kn := by
  have hn := h.2.2.2.1
  have F0 : 0 ≤ zFs s n := (zN_r _).1
  have hA := zac_A hn.1 hD
  have hE := zN_E F0 hA
  have e62 : ∀ m : z_Mem, (∀ o i, ¬ (o = 6 ∧ i = 8) → o ≠ 11 → o ≠ 12 → o ≠ 13 → o ≠ 14 → m o i = μ0 o i) → m 6 2 = zFs s n := fun m hm => by
    rw [hm 6 2 (by decide) (by decide) (by decide) (by decide) (by decide)]
    exact h.2.2.2.2.1
  have toFC : ∀ m : z_Mem, (∀ o i, ¬ (o = 6 ∧ i = 8) → o ≠ 11 → o ≠ 12 → o ≠ 13 → o ≠ 14 → m o i = μ0 o i) → zFC m s n := fun m hm => by
    obtain ⟨a1, a2, a3, a4, a5, a6, a7⟩ := id h
    refine ⟨?_, ?_, a3, a4, ?_, fun f f0 f1 => ?_, fun j j0 j1 => ?_⟩
    · rw [hm 6 0 (by decide) (by decide) (by decide) (by decide) (by decide)]
      exact a1
    · funext i
      rw [hm 7 i (by omega) (by decide) (by decide) (by decide) (by decide), a2]
    · rw [hm 6 2 (by omega) (by decide) (by decide) (by decide) (by decide)]
      exact a5
    · rw [hm 9 f (by omega) (by decide) (by decide) (by decide) (by decide), hm 10 f (by omega) (by decide) (by decide) (by decide) (by decide)]
      exact a6 f f0 f1
    · rw [hm 8 j (by omega) (by decide) (by decide) (by decide) (by decide)]
      exact a7 j j0 j1
  have loop : ∀ j, 0 ≤ j → j ≤ 4 * zFs s n → ∀ m, zCE μ0 m (zFs s n) (zac s n) (zac4 s n) j → z_rn m_X9_findEdges 32 [some (2, 6), some (0, j), none] m (d + 3) Kn := by
    refine z_up (fun j j0 j1 ih m hm => V_X9_findEdges_32 ?_)
    rw [e62 m hm.1]
    refine ⟨⟨by omega, by omega⟩, fun q => ?_, fun q => ?_⟩
    · obtain rfl : j = 4 * zFs s n := by omega
      exact hk m hm
    · refine e_joinSide (toFC m hm.1) hD hF ⟨j0, q⟩ ?_
      have A := hA j j0 q
      have h12 := hm.2.2.1 j j0 q
      have en : zN j.toNat (zld (zac s n)) ≤ 2 * zFs s n := by
        rw [← hE]
        exact zN_mono (by omega)
      have en0 := (zN_r (P := zld (zac s n)) j.toNat).1
      have w12 : z_st m 11 j (zac s n j) 12 j = m 12 j := z_st_ne (by decide)
      have w68 : z_st m 11 j (zac s n j) 6 8 = m 6 8 := z_st_ne (by decide)
      rw [w12, w68]
      refine ⟨by omega, fun q1 => ⟨⟨by omega, by omega⟩, ih q _ (zCE_no ⟨j0, q⟩ hA hm ?_)⟩, fun q2 => ?_⟩
      · intro r
        rw [if_neg (by omega)] at h12
        exact q1 h12
      · have lt : j < zac s n j := by
          rcases (by omega : j < zac s n j ∨ zac s n j < j) with r | r
          · exact r
          · rw [if_pos (by omega), q2] at h12
            have : 0 ≤ zed (zac s n) j := (zN_r _).1
            omega
        have en2 := zN_lt' (P := zld (zac s n)) (j := 4 * zFs s n) j0 q (by unfold zld; exact decide_eq_true lt)
        have g := hm.2.2.2.1
        have ge := zed_l lt
        refine ⟨fun q3 => by omega, fun q4 => ?_⟩
        simp only [z_st_rd, Int.reduceEq, false_and, true_and, and_self, if_false, if_true]
        rw [g, ← ge]
        refine ⟨by omega, by omega, by omega, ⟨by omega, by omega⟩, by omega, ⟨by omega, by omega⟩, ⟨by omega, by omega⟩, by omega, by omega, by omega, ⟨by omega, by omega⟩, ⟨by omega, by omega⟩, ih q _ ?_⟩
        exact zCE_yes ⟨j0, q⟩ hA hm lt rfl
  have init : ∀ j, 0 ≤ j → j ≤ 4 * zFs s n → ∀ m : z_Mem, (∀ o i, ¬ (o = 6 ∧ i = 8) → o ≠ 12 → m o i = μ0 o i) → m 6 8 = 0 → (∀ k, 0 ≤ k → k < j → m 12 k = -1) → z_rn m_X9_findEdges 7 [some (2, 6), some (0, j), none] m (d + 3) Kn := by
    refine z_up (fun j j0 j1 ih m hm h8 hno => V_X9_findEdges_7 ?_)
    rw [e62 m (fun o i a b c _ _ => hm o i a c)]
    refine ⟨⟨by omega, by omega⟩, fun q => loop 0 (by omega) (by omega) m ⟨fun o i a b c _ _ => hm o i a c, fun k k0 k1 => by omega, fun k k0 k1 => ?_, h8, fun k k0 k1 => by omega⟩, fun q => ⟨by omega, ⟨by omega, by omega⟩, ih q _ (fun o i a b => ?_) ?_ (fun k k0 k1 => ?_)⟩⟩
    · have := (hA k k0 k1).1
      rw [if_neg (by omega)]
      exact hno k k0 (by omega)
    · rw [z_st_ne b]
      exact hm o i a b
    · rw [z_st_ne (by decide)]
      exact h8
    · by_cases r : k = j
      · rw [r, z_st_eq]
      · rw [z_st_ni r]
        exact hno k k0 (by omega)
  exact V_X9_findEdges (init 0 (by omega) (by omega) _ (fun o i a b => z_st_nx a) z_st_eq (fun k k0 k1 => by omega))
end EA

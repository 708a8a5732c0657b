/-! FACES, SIDES, EDGES: the reference -/
theorem zlk_w {a : Int} (h : 0 ≤ a ∧ a < 6) : zlk a 0 = z_S 6 a ∧ zlk a 1 = z_S 7 a ∧ zlk a 2 = zx (z_S 6 a) ∧ zlk a 3 = zx (z_S 7 a) ∧ 0 ≤ z_S 6 a ∧ 0 ≤ z_S 7 a := by
  refine zd6 (P := fun a => zlk a 0 = z_S 6 a ∧ zlk a 1 = z_S 7 a ∧ zlk a 2 = zx (z_S 6 a) ∧ zlk a 3 = zx (z_S 7 a) ∧ 0 ≤ z_S 6 a ∧ 0 ≤ z_S 7 a) h ?_ ?_ ?_ ?_ ?_ ?_ <;> decide +kernel
section RA
variable {n a b c e k : Int} {s : Int → Int} {μ μ0 : z_Mem} {d : Nat} {K : Int → z_Mem → Prop} {Kn : z_Mem → Prop}
theorem e12_wayOf (ha : 0 ≤ a ∧ a < 6) (hb : 0 ≤ b ∧ b < 4) (h : K (zlk a b) μ) : z_ci m_X12_wayOf [(0, a), (0, b)] μ d K := by
  obtain ⟨w0, w1, w2, w3, w4, w5⟩ := zlk_w ha
  refine V_X12_wayOf ⟨by omega, fun q1 => ⟨⟨by omega, by omega⟩, fun q2 => ⟨⟨by omega, by omega⟩, ?_⟩, fun q3 => ?_⟩, fun q4 => ⟨⟨by omega, by omega⟩, fun q5 => ⟨⟨by omega, by omega⟩, ?_⟩, fun q6 => ?_⟩⟩
  · obtain rfl : b = 3 := by omega
    rw [w3] at h
    exact h
  · obtain rfl : b = 1 := by omega
    rw [w1] at h
    exact h
  · obtain rfl : b = 2 := by omega
    rw [w2] at h
    exact h
  · obtain rfl : b = 0 := by omega
    rw [w0] at h
    exact h
theorem e12_sideTo (hp : zpp a b) (h : K (zsd a b) μ) : z_ci m_X12_sideTo [(0, a), (0, b)] μ (d + 1) K := by
  have ha : 0 ≤ a ∧ a < 6 := ⟨hp.1, hp.2.1⟩
  have z := zsd_p hp
  have st : ∀ t : Int, 0 ≤ t → t ≤ 4 → (∀ t', 0 ≤ t' → t' < t → ¬ zlk a t' = b) → z_ri m_X12_sideTo 2 [some (0, a), some (0, b), some (0, t)] μ (d + 1) K := by
    refine z_up (fun t t0 t1 ih hno => V_X12_sideTo_2 ⟨fun q => ?_, fun q => e12_wayOf ha ⟨t0, q⟩ ⟨fun q1 => ⟨⟨by omega, by omega⟩, ih q (fun t' x y => ?_)⟩, fun q2 => ?_⟩⟩)
    · exact absurd z.2.2 (hno _ z.1 (by omega))
    · rcases (by omega : t' < t ∨ t' = t) with w | w
      · exact hno t' x w
      · rw [w]
        exact q1
    · rw [← q2, (zlk_p ha ⟨t0, q⟩).2] at h
      exact h
  exact V_X12_sideTo (st 0 (by omega) (by omega) (fun t' x y => by omega))
/-- the reference's cubes and FACES -/
def zFM (m : z_Mem) (s : Int → Int) (n : Int) : Prop := zNs m n s ∧ m 113 21 = zFs s n ∧ (∀ f, 0 ≤ f → f < zFs s n → m 121 f = zcu s n f ∧ m 122 f = zdi s n f)
theorem zMF_FM {m : z_Mem} (h : zMF μ0 m s n (6 * n.toNat)) (hN : zNs μ0 n s) : zFM m s n := by
  refine ⟨zMF_Ns h hN, h.2.1, fun f f0 f1 => ?_⟩
  have hn := hN.2.1
  obtain ⟨b1, b2, b3, b4⟩ := zcd hn ⟨f0, f1⟩
  have := h.2.2 (6 * zcu s n f + zdi s n f).toNat (by omega)
  rw [show (((6 * zcu s n f + zdi s n f).toNat : Nat) : Int) = 6 * zcu s n f + zdi s n f by omega] at this
  have := this b3
  rw [b4] at this
  rw [this.1, this.2]
  omega
theorem zFM_fr {m : z_Mem} (h : zFM μ0 s n) (hm : ∀ o i, ¬ (o = 113 ∧ (i = 22 ∨ i = 23)) → o ≠ 123 → o ≠ 124 → o ≠ 125 → o ≠ 126 → o ≠ 127 → o ≠ 128 → o ≠ 129 → m o i = μ0 o i) : zFM m s n := by
  obtain ⟨⟨a1, a2, a3, a4, a5⟩, b, c⟩ := h
  have e : ∀ o i, (o = 114 ∨ o = 121 ∨ o = 122 ∨ (o = 113 ∧ i = 21)) → m o i = μ0 o i := fun o i q => hm o i (by omega) (by omega) (by omega) (by omega) (by omega) (by omega) (by omega) (by omega)
  refine ⟨⟨by rw [e 114 0 (by omega)]; exact a1, a2, a3, fun i i0 i1 => by rw [e 114 _ (by omega)]; exact a4 i i0 i1, a5⟩, by rw [e 113 21 (by omega)]; exact b, fun f f0 f1 => by rw [e 121 f (by omega), e 122 f (by omega)]; exact c f f0 f1⟩
theorem e12_faceOf (h : zFM μ s n) (hF : zFs s n ≤ 30) (ha : 0 ≤ a ∧ a < n) (hb : 0 ≤ b ∧ b < 6) (hf : zfr s n (6 * a + b) = true) (hk : K (zN (6 * a + b).toNat (zfr s n)) μ) : z_ci m_X12_faceOf [(2, 113), (0, a), (0, b)] μ d K := by
  have hn := h.1.2.1
  have r := (zN_r (P := zfr s n) (6 * a + b).toNat).1
  have r1 := zN_lt' (P := zfr s n) (j := 6 * n) (by omega) (by omega) hf
  rw [← zFs_e hn] at r1
  have hj : 0 ≤ 6 * a + b ∧ 6 * a + b < 6 * n := by omega
  have ej := zel_of hj hf
  have ec : zcu s n (zN (6 * a + b).toNat (zfr s n)) = a := by
    unfold zcu
    rw [ej]
    omega
  have ed : zdi s n (zN (6 * a + b).toNat (zfr s n)) = b := by
    unfold zdi
    rw [ej]
    omega
  have key : ∀ v, 0 ≤ v → v ≤ zN (6 * a + b).toNat (zfr s n) → z_ri m_X12_faceOf 2 [some (2, 113), some (0, a), some (0, b), some (0, v)] μ d K := by
    refine z_up (fun v v0 v1 ih => V_X12_faceOf_2 ?_)
    obtain ⟨c1, c2⟩ := h.2.2 v v0 (by omega)
    rw [h.2.1, c1, c2]
    have z := zcd (s := s) hn (f := v) ⟨v0, by omega⟩
    have ne : ∀ (q : zcu s n v = a) (q' : zdi s n v = b), v = zN (6 * a + b).toNat (zfr s n) := fun q q' => by
      rw [q, q'] at z
      exact z.2.2.2.symm
    refine ⟨fun q => by omega, fun q => ⟨by omega, fun q3 => ⟨⟨by omega, by omega⟩, ih ?_⟩, fun q4 => ⟨by omega, fun q5 => ⟨⟨by omega, by omega⟩, ih ?_⟩, fun q6 => ?_⟩⟩⟩
    · rcases (by omega : v < zN (6 * a + b).toNat (zfr s n) ∨ v = zN (6 * a + b).toNat (zfr s n)) with x | x
      · exact x
      · exact absurd (by rw [x]; exact ec) q3
    · rcases (by omega : v < zN (6 * a + b).toNat (zfr s n) ∨ v = zN (6 * a + b).toNat (zfr s n)) with x | x
      · exact x
      · exact absurd (by rw [x]; exact ed) q5
    · rw [ne q4 q6]
      exact hk
  exact V_X12_faceOf (key 0 (by omega) r)
theorem e12_laysBehind (h : zFM μ s n) (hD : zDs s n) (hF : zFs s n ≤ 30) (ha : 0 ≤ a ∧ a < zFs s n) (hb : 0 ≤ b ∧ b < 4) (hk : Kn (z_st (z_st (z_st μ 125 (4 * a + b) (zac4 s n (4 * a + b))) 123 (4 * a + b) (zac s n (4 * a + b) / 4)) 124 (4 * a + b) (zac s n (4 * a + b) % 4))) : z_cn m_X12_laysBehind [(2, 113), (0, a), (0, b)] μ (d + 2) Kn := by
  have hn := h.1.2.1
  have k0 : 0 ≤ 4 * a + b ∧ 4 * a + b < 4 * zFs s n := by omega
  obtain ⟨g1, g2⟩ := zsl_of hn k0
  obtain ⟨e1, e2⟩ := h.2.2 a ha.1 ha.2
  unfold zac zac4 at hk
  rw [show (4 * a + b) / 4 = a by omega, show (4 * a + b) % 4 = b by omega] at *
  have D6 : 0 ≤ zdi s n a ∧ zdi s n a < 6 := ⟨g1.2.1.1, g1.2.1.2.1⟩
  refine V_X12_laysBehind ?_
  rw [e2]
  refine ⟨⟨by omega, by omega⟩, e12_wayOf D6 hb ⟨⟨by omega, by omega⟩, ?_⟩⟩
  rw [e1]
  have g1' := zsl_of hn k0
  generalize hC : zcu s n a = C at *
  generalize hDD : zdi s n a = D at *
  generalize zlk D b = l at *
  obtain ⟨hc, hp, hf⟩ := id g1
  have p1 := hp.1
  have p2 := hp.2.1
  have p3 := hp.2.2.1
  have p4 := hp.2.2.2.1
  refine e12_cubeAt h.1 hc (by omega) (by omega) ⟨⟨by omega, by omega⟩, ?_⟩
  rw [e1]
  refine e12_cubeAt h.1 hc (by omega) (by omega) ?_
  have fr : ∀ (m : z_Mem) w, m = z_st μ 125 (4 * a + b) w → zFM m s n := fun m w hm => by
    subst hm
    exact zFM_fr h (fun o i _ _ _ q _ _ _ _ => z_st_ne q)
  have kk := zk_c (s := s) (n := n) (c := C) (d := l) (l := D)
  have go : ∀ c' d' l' w, zsl s n c' d' l' → zar s n C D l = zso s n c' d' l' → zbe s n C D l = w → z_ci m_X12_faceOf [(2, 113), (0, c'), (0, d')] (z_st μ 125 (4 * a + b) w) (d + 1) (fun x m => ((0 : Int) ≤ 4 * a + b ∧ 4 * a + b < 120) ∧ (((0 : Int) ≤ x ∧ x < 30) ∧ (z_ci m_X12_sideTo [(0, (z_st m 123 ((4 * a) + b) x) 122 x), (0, l')] (z_st m 123 ((4 * a) + b) x) (d + 1) (fun y m' => ((0 : Int) ≤ 4 * a + b ∧ 4 * a + b < 120) ∧ Kn (z_st m' 124 ((4 * a) + b) y))))) := by
    intro c' d' l' w hz he hw
    have r := zso_r hz
    have hz1 := hz.2.1
    have f1 := fr _ w rfl
    refine e12_faceOf f1 hF hz.1 ⟨hz1.1, hz1.2.1⟩ hz.2.2 ?_
    rw [← r.2.2.2.2.2]
    refine ⟨by omega, by omega, ?_⟩
    rw [z_st_ne (by decide), (f1.2.2 (zso s n c' d' l' / 4) (by omega) (by omega)).2, r.2.2.2.1]
    refine e12_sideTo hz1 ⟨by omega, ?_⟩
    rw [he, hw] at hk
    have em : zso s n c' d' l' % 4 = zsd d' l' := by
      have := zsd_p hz1
      unfold zso
      omega
    rw [em] at hk
    exact hk
  refine ⟨⟨by omega, by omega⟩, ⟨by omega, by omega⟩, fun q1 => ⟨fun q2 => ⟨by omega, by omega, ?_⟩, fun q3 => ⟨⟨by omega, by omega⟩, ?_⟩⟩, fun q4 => ⟨⟨by omega, by omega⟩, ⟨by omega, by omega⟩, ?_⟩⟩
  · rw [z_st_ne (by decide), e1]
    rw [kk] at q1
    refine go C l D 0 ⟨hc, (zpp_x hp).2.2, ?_⟩ ?_ ?_
    · rw [zfr_iff hn ⟨by omega, p4⟩]
      exact (zk_no hn).mp q2
    · unfold zar
      rw [if_pos q1, if_pos q2]
    · unfold zbe
      rw [if_pos q1, if_pos q2]
  · rw [kk] at q1
    refine z_ri_mono (go _ D (zx l) 1 (zar_sl1 g1 q1 q3) ?_ ?_) (fun x m hx => ⟨⟨p3, by decide⟩, hx⟩)
    · unfold zar
      rw [if_pos q1, if_neg q3]
    · unfold zbe
      rw [if_pos q1, if_neg q3]
  · rw [kk] at q4 ⊢
    refine z_ri_mono (go _ (zx l) (zx D) 2 (zar_sl2 g1 q4) ?_ ?_) (fun x m hx => ⟨⟨p1, by decide⟩, hx⟩)
    · unfold zar
      rw [if_neg q4]
    · unfold zbe
      rw [if_neg q4]
/-- the reference: sides ahead of side j are laid -/
def zMB (μ0 m : z_Mem) (ac be : Int → Int) (j : Int) : Prop := (∀ o i, o ≠ 123 → o ≠ 124 → o ≠ 125 → o ≠ 126 → o ≠ 128 → m o i = μ0 o i) ∧ (∀ k, 0 ≤ k → k < j → m 123 k = ac k / 4 ∧ m 124 k = ac k % 4 ∧ m 125 k = be k ∧ m 126 k = -1 ∧ m 128 k = -1)
theorem e12_sides (h : zFM μ0 s n) (hD : zDs s n) (hF : zFs s n ≤ 30) (hk : ∀ m, zMB μ0 m (zac s n) (zac4 s n) (4 * zFs s n) → z_cn m_X12_laysEdges [(2, 113)] m (d + 2) (fun m3 => z_cn m_X12_laysVertices [(2, 113)] m3 (d + 2) Kn)) : ∀ m, m = μ0 → z_rn m_X12_laysSkin 80 [some (2, 113), some (0, 0), none] m (d + 3) Kn := by
  have F0 : 0 ≤ zFs s n := (zN_r _).1
  have key : ∀ f, 0 ≤ f → f ≤ zFs s n → ∀ m, zMB μ0 m (zac s n) (zac4 s n) (4 * f) → z_rn m_X12_laysSkin 80 [some (2, 113), some (0, f), none] m (d + 3) Kn := by
    refine z_up (fun f f0 f1 ih m hm => ?_)
    have toM : ∀ m j, zMB μ0 m (zac s n) (zac4 s n) j → zFM m s n := fun m j hm => zFM_fr h (fun o i _ a b c e _ f _ => hm.1 o i a b c e f)
    have e21 : ∀ m j, zMB μ0 m (zac s n) (zac4 s n) j → m 113 21 = zFs s n := fun m j hm => (toM m j hm).2.1
    refine V_X12_laysSkin_80 ?_
    rw [e21 m _ hm]
    refine ⟨fun q => ?_, fun q => ?_⟩
    · obtain rfl : f = zFs s n := by omega
      exact hk m hm
    · have key2 : ∀ t, 0 ≤ t → t ≤ 4 → ∀ m, zMB μ0 m (zac s n) (zac4 s n) (4 * f + t) → z_rn m_X12_laysSkin 90 [some (2, 113), some (0, f), some (0, t)] m (d + 3) Kn := by
        refine z_up (fun t t0 t1 ih2 m hm => V_X12_laysSkin_90 ⟨fun q1 => ⟨⟨by omega, by omega⟩, ih q m (by rw [show 4 * (f + 1) = 4 * f + t by omega]; exact hm)⟩, fun q1 => ?_⟩)
        refine e12_laysBehind (toM m _ hm) hD hF ⟨f0, q⟩ ⟨t0, q1⟩ ?_
        refine ⟨⟨by omega, by omega⟩, ⟨by omega, by omega⟩, ⟨by omega, by omega⟩, ⟨by omega, by omega⟩, ⟨by omega, by omega⟩, ⟨by omega, by omega⟩, ⟨by omega, by omega⟩, ih2 q1 _ ?_⟩
        rw [show 4 * f + (t + 1) = (4 * f + t) + 1 by omega]
        generalize 4 * f + t = k at hm
        refine ⟨fun o i a b c e g => ?_, fun k' k0 k1 => ?_⟩
        · rw [z_st_ne g, z_st_ne e, z_st_ne b, z_st_ne a, z_st_ne c]
          exact hm.1 o i a b c e g
        · simp only [z_st_rd, Int.reduceEq, false_and, true_and, if_false]
          by_cases r : k' = k
          · rw [if_pos r, if_pos r, if_pos r, if_pos r, if_pos r, r]
            exact ⟨rfl, rfl, rfl, rfl, rfl⟩
          · rw [if_neg r, if_neg r, if_neg r, if_neg r, if_neg r]
            exact hm.2 k' k0 (by omega)
      exact key2 0 (by omega) (by omega) m (by simpa using hm)
  intro m hm
  subst hm
  exact key 0 (by omega) F0 _ ⟨fun o i _ _ _ _ _ => rfl, fun k k0 k1 => by omega⟩
/-- the reference: EDGES of sides ahead of side j are found -/
def zME (μ0 m : z_Mem) (F : Int) (ac : Int → Int) (j : Int) : Prop := (∀ o i, ¬ (o = 113 ∧ i = 22) → o ≠ 126 → o ≠ 127 → m o i = μ0 o i) ∧ (∀ k, 0 ≤ k → k < 4 * F → m 126 k = if min k (ac k) < j then zed ac k else -1) ∧ m 113 22 = zN j.toNat (zld ac) ∧ (∀ k, 0 ≤ k → k < j → k < ac k → m 127 (zed ac k) = k)
theorem zME_no {m : z_Mem} {F j : Int} {ac : Int → Int} (hj : 0 ≤ j ∧ j < 4 * F) (hA : ∀ k, 0 ≤ k → k < 4 * F → (0 ≤ ac k ∧ ac k < 4 * F) ∧ ac (ac k) = k ∧ ac k ≠ k) (h : zME μ0 m F ac j) (hn : ¬ j < ac j) : zME μ0 m F ac (j + 1) := by
  obtain ⟨h1, h3, h4, h5⟩ := h
  refine ⟨h1, fun k k0 k1 => ?_, ?_, fun k k0 k1 k2 => ?_⟩
  · rw [h3 k k0 k1]
    have := hA k k0 k1
    have : min k (ac k) ≠ j := by
      intro q
      rcases (by omega : k = j ∨ ac k = j) with r | r
      · rw [r] at q
        have := (hA j hj.1 hj.2).2.2
        omega
      · have e := (hA k k0 k1).2.1
        rw [r] at e q
        omega
    by_cases q : min k (ac k) < j
    · rw [if_pos q, if_pos (by omega)]
    · rw [if_neg q, if_neg (by omega)]
  · rw [h4, zN_up hj.1, zi_f (by unfold zld; exact decide_eq_false hn)]
    omega
  · have : k ≠ j := fun q => hn (by rw [← q]; exact k2)
    exact h5 k k0 (by omega) k2
theorem zME_yes {m : z_Mem} {F j g : Int} {ac : Int → Int} (hj : 0 ≤ j ∧ j < 4 * F) (hA : ∀ k, 0 ≤ k → k < 4 * F → (0 ≤ ac k ∧ ac k < 4 * F) ∧ ac (ac k) = k ∧ ac k ≠ k) (h : zME μ0 m F ac j) (hn : j < ac j) (hg : g = zed ac j) : zME μ0 (z_st (z_st (z_st (z_st m 126 j g) 126 (ac j) g) 127 g j) 113 22 (g + 1)) F ac (j + 1) := by
  obtain ⟨h1, h3, h4, h5⟩ := h
  subst hg
  refine ⟨fun o i a b c => by rw [z_st_nx a, z_st_ne c, z_st_ne b, z_st_ne b]; exact h1 o i a b c, fun k k0 k1 => ?_, ?_, fun k k0 k1 k2 => ?_⟩
  · rw [z_st_ne (by decide), z_st_ne (by decide)]
    have A := hA k k0 k1
    have J := hA j hj.1 hj.2
    by_cases q : k = ac j
    · subst q
      rw [z_st_eq, if_pos (by omega)]
      unfold zed
      rw [J.2.1, Int.min_comm]
    · rw [z_st_ni q]
      by_cases q2 : k = j
      · subst q2
        rw [z_st_eq, if_pos (by omega)]
      · rw [z_st_ni q2, h3 k k0 k1]
        have : ac k ≠ j := fun r => q (by rw [← r]; exact A.2.1.symm)
        by_cases r : min k (ac k) < j
        · rw [if_pos r, if_pos (by omega)]
        · rw [if_neg r, if_neg (by omega)]
  · rw [z_st_eq, zed_l hn, zN_up hj.1, zi_t (by unfold zld; exact decide_eq_true hn)]
  · rw [z_st_ne (by decide)]
    by_cases q : k = j
    · subst q
      rw [z_st_eq]
    · have := zed_inj k0 (by omega : k < j) k2 hn
      rw [z_st_ni (by omega), z_st_ne (by decide), z_st_ne (by decide)]
      exact h5 k k0 (by omega) k2
theorem e12_laysEdges {F : Int} {ac : Int → Int} (h21 : μ0 113 21 = F) (hF : 0 ≤ F ∧ F ≤ 30) (hA : ∀ k, 0 ≤ k → k < 4 * F → (0 ≤ ac k ∧ ac k < 4 * F) ∧ ac (ac k) = k ∧ ac k ≠ k) (hac : ∀ k, 0 ≤ k → k < 4 * F → μ0 123 k = ac k / 4 ∧ μ0 124 k = ac k % 4 ∧ μ0 126 k = -1) (hk : ∀ m, zME μ0 m F ac (4 * F) → Kn m) : z_cn m_X12_laysEdges [(2, 113)] μ0 (d + 1) Kn := by
  have hE := zN_E hF.1 hA
  have key : ∀ j, 0 ≤ j → j ≤ 4 * F → ∀ m, zME μ0 m F ac j → z_rn m_X12_laysEdges 7 [some (2, 113), some (0, j)] m (d + 1) Kn := by
    refine z_up (fun j j0 j1 ih m hm => V_X12_laysEdges_7 ?_)
    have e21 : m 113 21 = F := by rw [hm.1 113 21 (by decide) (by decide) (by decide)]; exact h21
    rw [e21]
    refine ⟨⟨by omega, by omega⟩, fun q => ?_, fun q => ⟨by omega, fun q3 => ⟨⟨by omega, by omega⟩, ih q m (zME_no ⟨j0, q⟩ hA hm ?_)⟩, fun q4 => ⟨by omega, ?_⟩⟩⟩
    · obtain rfl : j = 4 * F := by omega
      exact hk m hm
    · intro r
      rw [hm.2.1 j j0 q, if_neg (by omega)] at q3
      exact q3 rfl
    · have lt : j < ac j := by
        have := (hA j j0 q).2.2
        rcases (by omega : j < ac j ∨ ac j < j) with r | r
        · exact r
        · rw [hm.2.1 j j0 q, if_pos (by omega)] at q4
          have : 0 ≤ zed ac j := (zN_r _).1
          omega
      have en2 := zN_lt' (P := zld ac) (j := 4 * F) j0 q (by unfold zld; exact decide_eq_true lt)
      have en0 := (zN_r (P := zld ac) j.toNat).1
      have g := hm.2.2.1
      have ge := zed_l lt
      obtain ⟨c1, c2, _⟩ := hac j j0 q
      have A := (hA j j0 q).1
      refine V_X12_mate ?_
      simp only [z_st_rd, Int.reduceEq, false_and, true_and, if_false]
      rw [hm.1 123 j (by omega) (by decide) (by decide), hm.1 124 j (by omega) (by decide) (by decide), c1, c2, g, ← ge]
      rw [show 4 * (ac j / 4) + ac j % 4 = ac j by omega]
      refine ⟨by omega, ⟨by omega, by omega⟩, by omega, ⟨by omega, by omega⟩, ?_⟩
      refine ⟨by omega, by omega, ⟨by omega, by omega⟩, ⟨by omega, by omega⟩, ih q _ (zME_yes ⟨j0, q⟩ hA hm lt rfl)⟩
  refine V_X12_laysEdges (key 0 (by omega) (by omega) _ ⟨fun o i a b c => z_st_nx a, fun k k0 k1 => ?_, z_st_eq, fun k k0 k1 => by omega⟩)
  rw [z_st_ne (by decide), (hac k k0 k1).2.2, if_neg (by have := (hA k k0 k1).1; omega)]
end RA

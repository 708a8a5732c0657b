/-! TRADES: the act, on both sides -/
section TR
variable {a b c e h k v r f s x y w n E N : Int} {p : zP} {D D' : Int → Int → Prop} {Q : Int → zP} {μ μ0 : z_Mem} {d : Nat} {K : Int → z_Mem → Prop} {Kn : z_Mem → Prop}
theorem zM_H {m : z_Mem} {H : Int → Bool} (hv : zV p) (C : zMn' μ p) (hf : ∀ o i, (121 ≤ o ∧ o ≤ 129) ∨ (o = 113 ∧ 21 ≤ i ∧ i ≤ 23) → m o i = μ o i) (hr : zRwM m 114 0 (psH p H)) : zMn' m (psH p H) := ⟨zMK_H hv.1 hv.2.1 C.1 hf hr, hr⟩
theorem e12_tradedTo (hv : zV p) (hc : zMn' μ p) (ha : 0 ≤ e ∧ e < 2 * pF p) (hb : 0 ≤ h ∧ h < 2 * pF p) (he : pH p e = false) (hh : pH p h = true) (h1 : ¬ zTd p e h → ∀ m, (∀ x i, x ≠ 114 → (x < 130 ∨ 132 < x) → (x < 135 ∨ 137 < x) → m x i = μ x i) → zMn' m p → K (-1) m) (h2 : zTd p e h → ∀ m, (∀ x i, x ≠ 114 → (x < 130 ∨ 132 < x) → (x < 135 ∨ 137 < x) → m x i = μ x i) → zMn' m p → K (zoN (psT p e h)) m) : z_ci m_X12_tradedTo [(2, 113), (0, e), (0, h)] μ (d + 5) K := by
  have sk := zV_sk hv
  have F0 : 0 ≤ pF p ∧ pF p ≤ 30 := sk.1
  have G : zGm μ (pF p) (pa p) (pe p) (pq p) := zMK_G hc.1
  obtain ⟨w1, w2, w3⟩ := zV_e hv ha
  obtain ⟨s1, s2, s3, s4, s5, s6⟩ := sk.2.1 _ w1.1 w1.2
  have ne : e ≠ h := fun w => by rw [w, hh] at he; cases he
  have hof : zof (pH p) h e = false := by rw [zof_ne ne, he]
  have r1 := zRwM_set (H := zof (pH p) h) (x := 0) hc.2 hv.1 (by omega : 0 ≤ h ∧ h < 60) (by rw [zof_e]; rfl) (fun e he => zof_ne he)
  have G1 : zGm (z_st μ 114 (23 + h) 0) (pF p) (pa p) (pe p) (pq p) := zGm_fr G (fun o i q => z_st_ne (by omega))
  refine V_X12_tradedTo ⟨(by first | omega | exact ⟨by omega, by omega⟩), (by first | omega | exact ⟨by omega, by omega⟩), ?_⟩
  refine e12_first G1 w3 w1.1 ha (e12_second G1 w3 w1 ha ?_)
  have back : ∀ m : z_Mem, zRwM m 114 0 (psH p (zof (pH p) h)) → zRwM (z_st m 114 (23 + h) 1) 114 0 p := fun m r => by
    have := zRwM_set (p := psH p (zof (pH p) h)) (H := pH p) (x := 1) r hv.1 (by omega : 0 ≤ h ∧ h < 60) (by rw [hh]; rfl) (fun e he => (zof_ne he).symm)
    exact this
  have fwd : ∀ m : z_Mem, zRwM m 114 0 (psH p (zof (pH p) h)) → zRwM (z_st m 114 (23 + e) 1) 114 0 (psT p e h) := fun m r => zRwM_set (p := psH p (zof (pH p) h)) (H := zon (zof (pH p) h) e) (x := 1) r hv.1 (by omega : 0 ≤ e ∧ e < 60) (by rw [zon_e]; rfl) (fun e he => zon_ne he)
  have bwd : ∀ m : z_Mem, zRwM m 114 0 (psT p e h) → zRwM (z_st m 114 (23 + e) 0) 114 0 (psH p (zof (pH p) h)) := fun m r => zRwM_set (p := psT p e h) (H := zof (pH p) h) (x := 0) r hv.1 (by omega : 0 ≤ e ∧ e < 60) (by rw [hof]; rfl) (fun e he => (zon_ne he).symm)
  refine e12_areJoined (H := zof (pH p) h) sk G1 (zRwM_H (p := psH p (zof (pH p) h)) r1) (by omega) (by omega) (fun m hm hj => ?_) (fun m hm hj => ?_)
  · have rm : zRwM m 114 0 (psH p (zof (pH p) h)) := zRwM_fr r1 hv.1 (fun i _ _ => hm.1 114 i (by decide) (by decide) (by decide))
    refine zy1 ⟨(by first | omega | exact ⟨by omega, by omega⟩), (by first | omega | exact ⟨by omega, by omega⟩), (by first | omega | exact ⟨by omega, by omega⟩), (by first | omega | exact ⟨by omega, by omega⟩), (by first | omega | exact ⟨by omega, by omega⟩), (by first | omega | exact ⟨by omega, by omega⟩), ?_⟩
    have r9 := back _ (bwd _ (fwd _ rm))
    have f9 : ∀ x i, x ≠ 114 → (x < 130 ∨ 132 < x) → (x < 135 ∨ 137 < x) → z_st (z_st (z_st m 114 (23 + e) 1) 114 (23 + e) 0) 114 (23 + h) 1 x i = μ x i := fun x i q1 q2 q3 => by
      rw [z_st_ne q1, z_st_ne q1, z_st_ne q1, hm.1 x i (by omega) (by omega) (by omega), z_st_ne q1]
    exact h1 (fun t => t.2.2.2.2 hj) _ f9 (zM_H (H := pH p) hv hc (fun o i q => f9 o i (by omega) (by omega) (by omega)) r9)
  · have rm : zRwM m 114 0 (psH p (zof (pH p) h)) := zRwM_fr r1 hv.1 (fun i _ _ => hm.1 114 i (by decide) (by decide) (by decide))
    have td : zTd p e h := ⟨ha, hb, he, hh, hj⟩
    refine zy0 ⟨(by first | omega | exact ⟨by omega, by omega⟩), (by first | omega | exact ⟨by omega, by omega⟩), ?_⟩
    have r8 := fwd _ rm
    have f8 : ∀ x i, x ≠ 114 → (x < 130 ∨ 132 < x) → (x < 135 ∨ 137 < x) → z_st m 114 (23 + e) 1 x i = μ x i := fun x i q1 q2 q3 => by
      rw [z_st_ne q1, hm.1 x i (by omega) (by omega) (by omega), z_st_ne q1]
    have C8 : zMn' (z_st m 114 (23 + e) 1) (psT p e h) := zM_H (H := zon (zof (pH p) h) e) hv hc (fun o i q => f8 o i (by omega) (by omega) (by omega)) r8
    refine e12_overlaps (zT_V hv td) C8 (fun m2 f2 _ => ⟨(by first | omega | exact ⟨by omega, by omega⟩), (by first | omega | exact ⟨by omega, by omega⟩), (by first | omega | exact ⟨by omega, by omega⟩), (by first | omega | exact ⟨by omega, by omega⟩), ?_⟩)
    have r9 := back _ (bwd m2 (zRwM_fr r8 hv.1 (fun i _ _ => f2 114 i (by omega) (by omega))))
    have f9 : ∀ x i, x ≠ 114 → (x < 130 ∨ 132 < x) → (x < 135 ∨ 137 < x) → z_st (z_st m2 114 (23 + e) 0) 114 (23 + h) 1 x i = μ x i := fun x i q1 q2 q3 => by
      rw [z_st_ne q1, z_st_ne q1, f2 x i q2 q3, f8 x i q1 q2 q3]
    exact h2 td _ f9 (zM_H (H := pH p) hv hc (fun o i q => f9 o i (by omega) (by omega) (by omega)) r9)
/-- what the reference holds of the best -/
def zB2 (p : zP) (D : Int → Int → Prop) (m : z_Mem) : Prop := ((m 113 32 = -2 ∧ m 113 33 = -2 ∧ m 113 34 = -2) ∧ zBs' p D (-1) 0 0) ∨ ((¬ m 113 34 = -2 ∧ ¬ m 113 32 = -1) ∧ zBs' p D (m 113 32) (m 113 33) (m 113 34))
theorem e12_laysBest (hv : zV p) (hc : zMn' μ p) (hk : ∀ m e h n, (∀ x i, ¬ (x = 113 ∧ 32 ≤ i ∧ i ≤ 34) → x ≠ 114 → (x < 130 ∨ 132 < x) → (x < 135 ∨ 137 < x) → m x i = μ x i) → zMn' m p → zBst p e h n → ((e = -1 ∧ m 113 32 = -2 ∧ m 113 33 = -2 ∧ m 113 34 = -2) ∨ (¬ e = -1 ∧ m 113 32 = e ∧ m 113 33 = h ∧ m 113 34 = n ∧ 0 ≤ n)) → Kn m) : z_cn m_X12_laysBest [(2, 113)] μ (d + 6) Kn := by
  have sk := zV_sk hv
  have F0 : 0 ≤ pF p ∧ pF p ≤ 30 := sk.1
  refine V_X12_laysBest ?_
  have outer : ∀ e, 0 ≤ e → e ≤ 2 * pF p → ∀ m : z_Mem, (∀ x i, ¬ (x = 113 ∧ 32 ≤ i ∧ i ≤ 34) → x ≠ 114 → (x < 130 ∨ 132 < x) → (x < 135 ∨ 137 < x) → m x i = μ x i) → zMn' m p → zB2 p (fun e' _ => e' < e) m → z_rn m_X12_laysBest 20 [some (2, 113), some (0, e), none, none] m (d + 6) Kn := by
    refine z_up (fun e e0 e1 ih m hf C hB => V_X12_laysBest_20 ?_)
    have G : zGm m (pF p) (pa p) (pe p) (pq p) := zMK_G C.1
    rw [G.2.1]
    refine ⟨fun q => ?_, fun q => ?_⟩
    · obtain rfl : e = 2 * pF p := by omega
      rcases hB with ⟨⟨b1, b2, b3⟩, b4⟩ | ⟨⟨b1, b2⟩, b4⟩
      · exact hk m (-1) 0 0 hf C (zBst_of b4 (fun e' h' t' => t'.1.2)) (Or.inl ⟨rfl, b1, b2, b3⟩)
      · refine hk m _ _ _ hf C (zBst_of b4 (fun e' h' t' => t'.1.2)) (Or.inr ⟨b2, rfl, rfl, rfl, ?_⟩)
        rcases b4 with ⟨x, _⟩ | ⟨_, x, _⟩
        · exact absurd x b2
        · rw [x]
          exact zoN_b.1
    · have inner : ∀ h, 0 ≤ h → h ≤ 2 * pF p → ∀ m : z_Mem, (∀ x i, ¬ (x = 113 ∧ 32 ≤ i ∧ i ≤ 34) → x ≠ 114 → (x < 130 ∨ 132 < x) → (x < 135 ∨ 137 < x) → m x i = μ x i) → zMn' m p → zB2 p (fun e' h' => e' < e ∨ (e' = e ∧ h' < h)) m → z_rn m_X12_laysBest 30 [some (2, 113), some (0, e), some (0, h), none] m (d + 6) Kn := by
        refine z_up (fun h h0 h1 ih2 m hf C hB => V_X12_laysBest_30 ?_)
        have G : zGm m (pF p) (pa p) (pe p) (pq p) := zMK_G C.1
        rw [G.2.1]
        refine ⟨fun q2 => ⟨(by first | omega | exact ⟨by omega, by omega⟩), ih q m hf C ?_⟩, fun q2 => ?_⟩
        · obtain rfl : h = 2 * pF p := by omega
          have dd : ∀ e' h', zTd p e' h' → (e' < e + 1 ↔ (e' < e ∨ (e' = e ∧ h' < 2 * pF p))) := fun e' h' t' => by
            have := t'.2.1
            omega
          rcases hB with ⟨b1, b4⟩ | ⟨b1, b4⟩
          · exact Or.inl ⟨b1, zBs_skip b4 dd⟩
          · exact Or.inr ⟨b1, zBs_skip b4 dd⟩
        · have skip : ∀ m : z_Mem, (∀ x i, ¬ (x = 113 ∧ 32 ≤ i ∧ i ≤ 34) → x ≠ 114 → (x < 130 ∨ 132 < x) → (x < 135 ∨ 137 < x) → m x i = μ x i) → zMn' m p → zB2 p (fun e' h' => e' < e ∨ (e' = e ∧ h' < h)) m → ¬ zTd p e h → z_rn m_X12_laysBest 30 [some (2, 113), some (0, e), some (0, h + 1), none] m (d + 6) Kn := fun m hf C hB nt => ih2 q2 m hf C (by
            have dd : ∀ e' h', zTd p e' h' → ((e' < e ∨ (e' = e ∧ h' < h + 1)) ↔ (e' < e ∨ (e' = e ∧ h' < h))) := fun e' h' t' => by
              have : ¬ (h' = h ∧ e' = e) := fun w => by
                rw [w.1, w.2] at t'
                exact nt t'
              omega
            rcases hB with ⟨b1, b4⟩ | ⟨b1, b4⟩
            · exact Or.inl ⟨b1, zBs_skip b4 dd⟩
            · exact Or.inr ⟨b1, zBs_skip b4 dd⟩)
          refine e12_isHinge (zRwM_H C.2) (by omega) (fun hz => zy1 ⟨(by first | omega | exact ⟨by omega, by omega⟩), skip m hf C hB (fun t => by rw [t.2.2.1] at hz; cases hz)⟩) (fun hz => zy0 ?_)
          refine e12_isHinge (zRwM_H C.2) (by omega) (fun hz2 => zy1 ?_) (fun hz2 => zy0 ⟨(by first | omega | exact ⟨by omega, by omega⟩), skip m hf C hB (fun t => by rw [t.2.2.2.1] at hz2; cases hz2)⟩)
          have fr2 : ∀ m2 : z_Mem, (∀ x i, x ≠ 114 → (x < 130 ∨ 132 < x) → (x < 135 ∨ 137 < x) → m2 x i = m x i) → (∀ x i, ¬ (x = 113 ∧ 32 ≤ i ∧ i ≤ 34) → x ≠ 114 → (x < 130 ∨ 132 < x) → (x < 135 ∨ 137 < x) → m2 x i = μ x i) := fun m2 f2 x i c1 c2 c3 c4 => by rw [f2 x i c2 c3 c4]; exact hf x i c1 c2 c3 c4
          have kB : ∀ m2 : z_Mem, (∀ x i, x ≠ 114 → (x < 130 ∨ 132 < x) → (x < 135 ∨ 137 < x) → m2 x i = m x i) → zB2 p (fun e' h' => e' < e ∨ (e' = e ∧ h' < h)) m2 := fun m2 f2 => by
            unfold zB2
            rw [f2 113 32 (by decide) (by decide) (by decide), f2 113 33 (by decide) (by decide) (by decide), f2 113 34 (by decide) (by decide) (by decide)]
            exact hB
          refine e12_tradedTo hv C ⟨e0, q⟩ ⟨h0, q2⟩ hz hz2 (fun nt m2 f2 C2 => ⟨fun _ => ⟨(by first | omega | exact ⟨by omega, by omega⟩), skip m2 (fr2 m2 f2) C2 (kB m2 f2) nt⟩, fun z => absurd rfl z⟩) (fun td m2 f2 C2 => ?_)
          have F2 := fr2 m2 f2
          have zn := zoN_435 (p := psT p e h)
          have dd : ∀ e' h', zTd p e' h' → ((e' < e ∨ (e' = e ∧ h' < h + 1)) ↔ ((e' < e ∨ (e' = e ∧ h' < h)) ∨ (e' = e ∧ h' = h))) := fun e' h' _ => by omega
          have set : (∃ E A N, zBs' p (fun e' h' => e' < e ∨ (e' = e ∧ h' < h)) E A N ∧ (E = -1 ∨ zoN (psT p e h) < N ∨ (zoN (psT p e h) = N ∧ e < E))) → z_rn m_X12_laysBest 30 [some (2, 113), some (0, e), some (0, h + 1), none] (z_st (z_st (z_st m2 113 32 e) 113 33 h) 113 34 (zoN (psT p e h))) (d + 6) Kn := fun ⟨E, A, N, b, hq⟩ => by
            refine ih2 q2 _ (fun x i c1 c2 c3 c4 => ?_) (zMn_fr C2 hv.1 (fun x i w => ?_)) (Or.inr ⟨⟨?_, ?_⟩, ?_⟩)
            · simp only [z_st_rd]
              rw [if_neg (by omega), if_neg (by omega), if_neg (by omega)]
              exact F2 x i c1 c2 c3 c4
            · simp only [z_st_rd]
              rw [if_neg (by omega), if_neg (by omega), if_neg (by omega)]
            · rw [z_st_eq]
              omega
            · rw [z_st_ni (by decide), z_st_ni (by decide), z_st_eq]
              omega
            · simp only [z_st_rd, Int.reduceEq, and_false, and_self, if_false, if_true]
              exact zBs_new b td rfl dd hq
          have kb := kB m2 f2
          refine ⟨fun z => by omega, fun _ => ⟨fun z => ⟨(by first | omega | exact ⟨by omega, by omega⟩), set ?_⟩, fun z => ⟨fun z2 => ⟨(by first | omega | exact ⟨by omega, by omega⟩), ?_⟩, fun z2 => ⟨(by first | omega | exact ⟨by omega, by omega⟩), set ?_⟩⟩⟩⟩
          · rcases kb with ⟨b1, b4⟩ | ⟨b1, b4⟩
            · exact ⟨_, _, _, b4, Or.inl rfl⟩
            · exact absurd z b1.1
          · rcases kb with ⟨b1, b4⟩ | ⟨b1, b4⟩
            · exact absurd b1.2.2 z
            · refine ih2 q2 m2 F2 C2 (Or.inr ⟨b1, ?_⟩)
              have bd : m2 113 32 < e ∨ (m2 113 32 = e ∧ m2 113 33 < h) := by
                rcases b4 with ⟨x, _⟩ | ⟨⟨_, x⟩, _⟩
                · exact absurd x b1.2
                · exact x
              exact zBs_keep b4 rfl dd b1.2 (by omega)
          · rcases kb with ⟨b1, b4⟩ | ⟨b1, b4⟩
            · exact ⟨_, _, _, b4, Or.inl rfl⟩
            · exact ⟨_, _, _, b4, Or.inr (Or.inl z2)⟩
      refine inner 0 (by omega) (by omega) m hf C ?_
      have dd : ∀ e' h', zTd p e' h' → ((e' < e ∨ (e' = e ∧ h' < 0)) ↔ e' < e) := fun e' h' t' => by
        have := t'.2.1
        omega
      rcases hB with ⟨b1, b4⟩ | ⟨b1, b4⟩
      · exact Or.inl ⟨b1, zBs_skip b4 dd⟩
      · exact Or.inr ⟨b1, zBs_skip b4 dd⟩
  refine outer 0 (by omega) (by omega) _ (fun x i c1 c2 c3 c4 => ?_) (zMn_fr hc hv.1 (fun x i w => ?_)) (Or.inl ⟨⟨?_, ?_, ?_⟩, Or.inl ⟨rfl, fun e' h' t' => ?_⟩⟩)
  · simp only [z_st_rd]
    rw [if_neg (by omega), if_neg (by omega), if_neg (by omega)]
  · simp only [z_st_rd]
    rw [if_neg (by omega), if_neg (by omega), if_neg (by omega)]
  · simp only [z_st_rd, Int.reduceEq, and_false, and_self, if_false, if_true]
  · simp only [z_st_rd, Int.reduceEq, and_false, and_self, if_false, if_true]
  · simp only [z_st_rd, Int.reduceEq, and_false, and_self, if_false, if_true]
  · have := t'.1.1
    show ¬ e' < 0
    omega
end TR

/-! TRADES: the class looks, EDGE by EDGE -/
section LO
variable {a b c e h k v r f s x y w n E N : Int} {p : zP} {D D' : Int → Int → Prop} {μ μ0 : z_Mem} {d : Nat} {K : Int → z_Mem → Prop} {Kn : z_Mem → Prop}
theorem zBs_new (hB : zBs' p D E a N) (ht : zTd p e h) (hn : n = zoN (psT p e h)) (hD : ∀ e' h', zTd p e' h' → (D' e' h' ↔ D e' h' ∨ (e' = e ∧ h' = h))) (hq : E = -1 ∨ n < N ∨ (n = N ∧ e < E)) : zBs' p D' e h n := by
  refine Or.inr ⟨⟨ht, (hD e h ht).mpr (Or.inr ⟨rfl, rfl⟩)⟩, hn, fun e' h' t' d' => ?_⟩
  rcases (hD e' h' t').mp d' with x | ⟨x, y⟩
  · rcases hB with ⟨b1, b2⟩ | ⟨⟨b1, b2⟩, b3, b4⟩
    · exact absurd x (b2 e' h' t')
    · have := b4 e' h' t' x
      have := b1.1
      omega
  · rw [x, y]
    omega
theorem zBs_keep (hB : zBs' p D E a N) (hn : n = zoN (psT p e h)) (hD : ∀ e' h', zTd p e' h' → (D' e' h' ↔ D e' h' ∨ (e' = e ∧ h' = h))) (hE : ¬ E = -1) (hq : N < n ∨ (N = n ∧ (E < e ∨ (E = e ∧ (D E a → a ≤ h))))) : zBs' p D' E a N := by
  rcases hB with ⟨b1, b2⟩ | ⟨⟨b1, b2⟩, b3, b4⟩
  · exact absurd b1 hE
  · refine Or.inr ⟨⟨b1, (hD E a b1).mpr (Or.inl b2)⟩, b3, fun e' h' t' d' => ?_⟩
    rcases (hD e' h' t').mp d' with x | ⟨x, y⟩
    · exact b4 e' h' t' x
    · rw [x, y]
      rcases hq with q | ⟨q, q2 | ⟨q2, q3⟩⟩
      · omega
      · omega
      · have := q3 b2
        omega
theorem zBs_skip (hB : zBs' p D E a N) (hD : ∀ e' h', zTd p e' h' → (D' e' h' ↔ D e' h')) : zBs' p D' E a N := by
  rcases hB with ⟨b1, b2⟩ | ⟨⟨b1, b2⟩, b3, b4⟩
  · exact Or.inl ⟨b1, fun e' h' t' d' => b2 e' h' t' ((hD e' h' t').mp d')⟩
  · exact Or.inr ⟨⟨b1, (hD E a b1).mpr b2⟩, b3, fun e' h' t' d' => b4 e' h' t' ((hD e' h' t').mp d')⟩
theorem e_lookAt (hv : zV p) (hw : zWo p) (hc : zCn' μ p) (hh : 0 ≤ h ∧ h < 2 * pF p) (hH : pH p h = true) (hB : zBs' p (fun _ h' => h' < h) (μ 29 1) (μ 29 2) (μ 29 3)) (hk : ∀ m, (∀ o i, o ≠ 30 → ¬ (o = 29 ∧ 1 ≤ i ∧ i ≤ 3) → m o i = μ o i) → zBs' p (fun _ h' => h' < h + 1) (m 29 1) (m 29 2) (m 29 3) → Kn m) : z_cn m_X10_lookAt [(2, 29), (0, h), (2, 21)] μ (d + 4) Kn := by
  have sk := zV_sk hv
  have F0 : 0 ≤ pF p ∧ pF p ≤ 30 := sk.1
  obtain ⟨Q, _⟩ := zCn_Q hv hc
  refine V_X10_lookAt (e_cutOff hv hw hc (fun v v0 vb => ⟨⟨Q.1.1, v0⟩, ?_⟩))
  refine e_layDown v0 vb (zDn_of hv Q (fun g hg => zPl_w hw hv (zoff_r hv hg))) (fun m1 f1 _ => ?_)
  have Q1 : zQC m1 p := (zCn_Q hv (zCn_fr hc (fun x i q => f1 x i (by omega)))).1
  refine e_layDown (Int.natCast_nonneg _) (zrest_bits hv hw Q vb) (zDn_of hv Q1 (fun g hg => zPl_w hw hv (zrest_r hv hg))) (fun m2 f2 t2 => ?_)
  have bO := zD_b (P := zws p (zoff p h))
  have bR := zD_b (P := zws p (zrest p h))
  refine ⟨(by first | omega | exact ⟨by omega, by omega⟩), ?_⟩
  have loop : ∀ e, 0 ≤ e → e ≤ 2 * pF p → ∀ m : z_Mem, (∀ o i, o ≠ 30 → ¬ (o = 29 ∧ 1 ≤ i ∧ i ≤ 3) → m o i = μ o i) → zTk p m (zrest p h) → zBs' p (fun e' h' => h' < h ∨ (h' = h ∧ e' < e)) (m 29 1) (m 29 2) (m 29 3) → z_rn m_X10_lookAt 36 [some (2, 29), some (0, h), some (2, 21), some (0, v), none, some (0, zD (zws p (zoff p h)) + zD (zws p (zrest p h))), some (0, e), none, none, none, none] m (d + 4) Kn := by
    refine z_up (fun e e0 e1 ih m hf ht hb => V_X10_lookAt_36 ?_)
    have C : zCn' m p := zCn_fr hc (fun x i q => hf x i (by omega) (by omega))
    have G : zGc m (pF p) (pa p) (pe p) (pq p) := zCK_G C.1
    rw [G.2.1]
    refine ⟨fun q => ?_, fun q => ?_⟩
    · obtain rfl : e = 2 * pF p := by omega
      refine hk m hf (zBs_skip hb (fun e' h' t' => ?_))
      have := t'.1
      show h' < h + 1 ↔ (h' < h ∨ (h' = h ∧ e' < 2 * pF p))
      omega
    · obtain ⟨g1, g2⟩ := G.2.2.2 e e0 q
      obtain ⟨r1, r2, _⟩ := zV_e hv (a := e) ⟨e0, q⟩
      obtain ⟨s1, s2, s3, s4, s5, s6⟩ := sk.2.1 (pq p e) r1.1 r1.2
      have J := zoff_J (h := h) hv hw hh hH (a := pq p e / 4) (b := pa p (pq p e) / 4) (by omega) (by omega)
      have skip : (pH p e = true ∨ zoff p h (pq p e / 4) = zoff p h (pa p (pq p e) / 4)) → z_rn m_X10_lookAt 36 [some (2, 29), some (0, h), some (2, 21), some (0, v), none, some (0, zD (zws p (zoff p h)) + zD (zws p (zrest p h))), some (0, e + 1), none, none, none, none] m (d + 4) Kn := fun hs => ih q m hf ht (zBs_skip hb (fun e' h' t' => by
        show (h' < h ∨ (h' = h ∧ e' < e + 1)) ↔ (h' < h ∨ (h' = h ∧ e' < e))
        have : ¬ (h' = h ∧ e' = e) := fun w => by
          obtain ⟨t1, t2, t3, t4, t5⟩ := t'
          rw [w.1, w.2] at t5
          rw [w.2] at t3
          rcases hs with x | x
          · rw [x] at t3
            cases t3
          · exact t5 (J.mp x)
        omega))
      have take : ∀ s, (0 ≤ s ∧ s < 4 * pF p) → pe p s = e → zoff p h (s / 4) = false → zoff p h (pa p s / 4) = true → pH p e = false → zoff p h (pq p e / 4) ≠ zoff p h (pa p (pq p e) / 4) → z_ci m_X10_between [(2, 29), (0, v), (0, s), (0, pa p s)] m (d + 3) (fun x29 m27 => z_I (zD (zws p (zoff p h)) + zD (zws p (zrest p h)) + x29) ∧ z_cn m_X10_compare [(2, 29), (0, e), (0, h), (0, zD (zws p (zoff p h)) + zD (zws p (zrest p h)) + x29)] m27 (d + 3) (fun m30 => z_I (e + 1) ∧ z_rn m_X10_lookAt 36 [some (2, 29), some (0, h), some (2, 21), some (0, v), none, some (0, zD (zws p (zoff p h)) + zD (zws p (zrest p h))), some (0, e + 1), none, none, none, none] m30 (d + 4) Kn)) := fun s hs hse hso hmo hpe hne => by
        have td : zTd p e h := ⟨⟨e0, q⟩, hh, hpe, hH, fun x => hne (J.mpr x)⟩
        have T := zoN_T hv hw td hs hse hso hmo
        have bB := zD_b (P := zbw p s h)
        refine e_between hv hw C v0 vb ht hs hmo ⟨(by first | omega | exact ⟨by omega, by omega⟩), ?_⟩
        rw [← T]
        have dd : ∀ e' h', zTd p e' h' → ((h' < h ∨ (h' = h ∧ e' < e + 1)) ↔ ((h' < h ∨ (h' = h ∧ e' < e)) ∨ (e' = e ∧ h' = h))) := fun e' h' _ => by omega
        have set : (m 29 1 = -1 ∨ zoN (psT p e h) < m 29 3 ∨ (zoN (psT p e h) = m 29 3 ∧ e < m 29 1)) → z_I (e + 1) ∧ z_rn m_X10_lookAt 36 [some (2, 29), some (0, h), some (2, 21), some (0, v), none, some (0, zD (zws p (zoff p h)) + zD (zws p (zrest p h))), some (0, e + 1), none, none, none, none] (z_st (z_st (z_st m 29 1 e) 29 2 h) 29 3 (zoN (psT p e h))) (d + 4) Kn := fun hq => by
          refine ⟨(by first | omega | exact ⟨by omega, by omega⟩), ih q _ (fun o i h1 h2 => ?_) ⟨fun i i0 i1 => ?_, fun f hs' => ?_⟩ ?_⟩
          · simp only [z_st_rd]
            rw [if_neg (by omega), if_neg (by omega), if_neg (by omega)]
            exact hf o i h1 h2
          · rw [z_st_ne (by decide), z_st_ne (by decide), z_st_ne (by decide)]
            exact ht.1 i i0 i1
          · rw [z_st_ne (by decide), z_st_ne (by decide), z_st_ne (by decide)]
            exact ht.2 f hs'
          · simp only [z_st_rd, Int.reduceEq, and_false, and_self, if_false, if_true]
            exact zBs_new hb td rfl dd hq
        have stay : ¬ m 29 1 = -1 → (m 29 3 < zoN (psT p e h) ∨ (m 29 3 = zoN (psT p e h) ∧ m 29 1 ≤ e)) → z_I (e + 1) ∧ z_rn m_X10_lookAt 36 [some (2, 29), some (0, h), some (2, 21), some (0, v), none, some (0, zD (zws p (zoff p h)) + zD (zws p (zrest p h))), some (0, e + 1), none, none, none, none] m (d + 4) Kn := fun h1 hq => by
          refine ⟨(by first | omega | exact ⟨by omega, by omega⟩), ih q m hf ht (zBs_keep hb rfl dd h1 ?_)⟩
          rcases hq with x | ⟨x, y⟩
          · exact Or.inl x
          · refine Or.inr ⟨x, ?_⟩
            rcases (by omega : m 29 1 < e ∨ m 29 1 = e) with z | z
            · exact Or.inl z
            · refine Or.inr ⟨z, fun dd => ?_⟩
              have dd : m 29 2 < h ∨ (m 29 2 = h ∧ m 29 1 < e) := dd
              omega
        exact V_X10_compare ⟨fun q1 => set (Or.inl q1), fun q2 => ⟨fun q3 => set (Or.inr (Or.inl q3)), fun q4 => ⟨fun q5 => stay q2 (by omega), fun q6 => ⟨fun q7 => stay q2 (by omega), fun q8 => set (Or.inr (Or.inr ⟨q6, q8⟩))⟩⟩⟩⟩
      refine e_faceOf G (by omega) ⟨e0, q⟩ (Or.inl rfl) ?_
      rw [if_pos rfl]
      refine ⟨(by first | omega | exact ⟨by omega, by omega⟩), v0, ?_⟩
      rw [zbt_z v0, vb _ (by omega)]
      have second : ∀ {P : Int → z_Mem → Prop}, P (pa p (pq p e) / 4) m → z_ci m_X9_faceOf [(2, 6), (0, e), (0, 1)] m (d + 3) P := fun hp => e_faceOf G (by omega) ⟨e0, q⟩ (Or.inr rfl) (by rw [if_neg (by decide)]; exact hp)
      cases hA : zoff p h (pq p e / 4) with
      | false =>
        refine ⟨fun _ => second ⟨(by first | omega | exact ⟨by omega, by omega⟩), v0, ?_⟩, fun z => absurd rfl z⟩
        rw [zbt_z v0, vb _ (by omega)]
        cases hBb : zoff p h (pa p (pq p e) / 4) with
        | false =>
          have := skip (Or.inr (by rw [hA, hBb]))
          exact ⟨fun _ => e_isHinge zkd21 C.2.1.1 (by omega) (fun _ => zy1 ⟨(by first | omega | exact ⟨by omega, by omega⟩), this⟩) (fun _ => zy0 ⟨(by first | omega | exact ⟨by omega, by omega⟩), this⟩), fun z => absurd rfl z⟩
        | true =>
          refine ⟨fun z => absurd z (by decide), fun _ => e_isHinge zkd21 C.2.1.1 (by omega) (fun hz => zy1 ⟨(by first | omega | exact ⟨by omega, by omega⟩), skip (Or.inl hz)⟩) (fun hz => zy0 ⟨(by first | omega | exact ⟨by omega, by omega⟩), (by first | omega | exact ⟨by omega, by omega⟩), (by first | omega | exact ⟨by omega, by omega⟩), (by first | omega | exact ⟨by omega, by omega⟩), (by first | omega | exact ⟨by omega, by omega⟩), (by first | omega | exact ⟨by omega, by omega⟩), ?_⟩)⟩
          rw [Int.add_zero, g1, g2]
          exact take (pq p e) r1 r2 hA hBb hz (by rw [hA, hBb]; decide)
      | true =>
        refine ⟨fun z => absurd z (by decide), fun _ => second ⟨(by first | omega | exact ⟨by omega, by omega⟩), v0, ?_⟩⟩
        rw [zbt_z v0, vb _ (by omega)]
        cases hBb : zoff p h (pa p (pq p e) / 4) with
        | false =>
          refine ⟨fun _ => e_isHinge zkd21 C.2.1.1 (by omega) (fun hz => zy1 ⟨(by first | omega | exact ⟨by omega, by omega⟩), skip (Or.inl hz)⟩) (fun hz => zy0 ⟨(by first | omega | exact ⟨by omega, by omega⟩), (by first | omega | exact ⟨by omega, by omega⟩), (by first | omega | exact ⟨by omega, by omega⟩), (by first | omega | exact ⟨by omega, by omega⟩), (by first | omega | exact ⟨by omega, by omega⟩), (by first | omega | exact ⟨by omega, by omega⟩), ?_⟩), fun z => absurd rfl z⟩
          rw [Int.add_zero, g1, g2]
          have := take (pa p (pq p e)) s1 (by rw [s5, r2]) hBb (by rw [s2]; exact hA) hz (by rw [hA, hBb]; decide)
          rw [s2] at this
          exact this
        | true =>
          have := skip (Or.inr (by rw [hA, hBb]))
          exact ⟨fun z => absurd z (by decide), fun _ => e_isHinge zkd21 C.2.1.1 (by omega) (fun _ => zy1 ⟨(by first | omega | exact ⟨by omega, by omega⟩), this⟩) (fun _ => zy0 ⟨(by first | omega | exact ⟨by omega, by omega⟩), this⟩)⟩
  refine loop 0 (by omega) (by omega) m2 (fun o i h1 h2 => by rw [f2 o i h1, f1 o i h1]) t2 ?_
  rw [f2 29 1 (by decide), f1 29 1 (by decide), f2 29 2 (by decide), f1 29 2 (by decide), f2 29 3 (by decide), f1 29 3 (by decide)]
  refine zBs_skip hB (fun e' h' t' => ?_)
  have := t'.1
  show (h' < h ∨ (h' = h ∧ e' < 0)) ↔ h' < h
  omega
/-- the best trade, as told -/
def zBst (p : zP) (e h n : Int) : Prop := (e = -1 ∧ ∀ e' h', ¬ zTd p e' h') ∨ (zTd p e h ∧ n = zoN (psT p e h) ∧ ∀ e' h', zTd p e' h' → n < zoN (psT p e' h') ∨ (n = zoN (psT p e' h') ∧ (e < e' ∨ (e = e' ∧ h ≤ h'))))
theorem zBst_of (hB : zBs' p D e h n) (hD : ∀ e' h', zTd p e' h' → D e' h') : zBst p e h n := by
  rcases hB with ⟨b1, b2⟩ | ⟨⟨b1, b2⟩, b3, b4⟩
  · exact Or.inl ⟨b1, fun e' h' t' => b2 e' h' t' (hD e' h' t')⟩
  · exact Or.inr ⟨b1, b3, fun e' h' t' => b4 e' h' t' (hD e' h' t')⟩
/-- what the trader knows -/
def zKn (m : z_Mem) (p : zP) : Prop := ¬ m 29 0 = 0 → zWo p ∧ zBst p (m 29 1) (m 29 2) (m 29 3)
theorem e_lookB (hv : zV p) (hw : zWo p) (hc : zCn' μ p) (hn : zKn μ p) (hk : ∀ m, (∀ o i, o ≠ 30 → ¬ (o = 29 ∧ 0 ≤ i ∧ i ≤ 3) → m o i = μ o i) → ¬ m 29 0 = 0 → zBst p (m 29 1) (m 29 2) (m 29 3) → Kn m) : z_cn m_X10_look [(2, 29), (2, 21)] μ (d + 5) Kn := by
  have sk := zV_sk hv
  have F0 : 0 ≤ pF p ∧ pF p ≤ 30 := sk.1
  refine V_X10_look ⟨fun q => ?_, fun q => hk μ (fun _ _ _ _ => rfl) q (hn q).2⟩
  have loop : ∀ h, 0 ≤ h → h ≤ 2 * pF p → ∀ m : z_Mem, (∀ o i, o ≠ 30 → ¬ (o = 29 ∧ 1 ≤ i ∧ i ≤ 3) → m o i = μ o i) → zBs' p (fun _ h' => h' < h) (m 29 1) (m 29 2) (m 29 3) → z_rn m_X10_look 25 [some (2, 29), some (2, 21), some (0, h)] m (d + 5) Kn := by
    refine z_up (fun h h0 h1 ih m hf hb => V_X10_look_25 ?_)
    have C : zCn' m p := zCn_fr hc (fun x i q => hf x i (by omega) (by omega))
    have G : zGc m (pF p) (pa p) (pe p) (pq p) := zCK_G C.1
    rw [G.2.1]
    refine ⟨fun q => ?_, fun q => e_isHinge zkd21 C.2.1.1 (by omega) (fun hz => zy1' ?_) (fun hz => zy0' ⟨(by first | omega | exact ⟨by omega, by omega⟩), ?_⟩)⟩
    · obtain rfl : h = 2 * pF p := by omega
      refine hk (z_st m 29 0 1) (fun o i h1 h2 => ?_) ?_ ?_
      · rw [z_st_rd, if_neg (by omega)]
        exact hf o i h1 (by omega)
      · rw [z_st_eq]
        decide
      · rw [z_st_ni (by decide), z_st_ni (by decide), z_st_ni (by decide)]
        exact zBst_of hb (fun e' h' t' => t'.2.1.2)
    · refine e_lookAt hv hw C ⟨h0, q⟩ hz hb (fun m' hf' hb' => ⟨(by first | omega | exact ⟨by omega, by omega⟩), ?_⟩)
      exact ih q m' (fun o i h1 h2 => by rw [hf' o i h1 h2]; exact hf o i h1 h2) hb'
    · refine ih q m hf (zBs_skip hb (fun e' h' t' => ?_))
      show h' < h + 1 ↔ h' < h
      have : h' ≠ h := fun w => by
        have := t'.2.2.2.1
        rw [w, hz] at this
        cases this
      omega
  refine loop 0 (by omega) (by omega) _ (fun o i h1 h2 => ?_) (Or.inl ⟨?_, fun e' h' t' => ?_⟩)
  · simp only [z_st_rd]
    rw [if_neg (by omega), if_neg (by omega), if_neg (by omega)]
  · simp only [z_st_rd, Int.reduceEq, and_false, and_self, if_false, if_true]
  · have := t'.2.1.1
    show ¬ h' < 0
    omega
theorem zBst_un {e2 h2 n2 : Int} (h1 : zBst p e h n) (h3 : zBst p e2 h2 n2) : (e = -1 ∧ e2 = -1 ∧ ∀ e' h', ¬ zTd p e' h') ∨ (zTd p e h ∧ e = e2 ∧ h = h2 ∧ n = n2 ∧ n = zoN (psT p e h)) := by
  rcases h1 with ⟨a1, a2⟩ | ⟨a1, a2, a3⟩ <;> rcases h3 with ⟨b1, b2⟩ | ⟨b1, b2, b3⟩
  · exact Or.inl ⟨a1, b1, a2⟩
  · exact absurd b1 (a2 _ _)
  · exact absurd a1 (b2 _ _)
  · have x := a3 _ _ b1
    have y := b3 _ _ a1
    exact Or.inr ⟨a1, by omega, by omega, by omega, a2⟩
end LO

/-! THE RIM: the reference; the calls -/
section RJ
variable {a b c k v r f : Int} {p : zP} {L : List Int} {μ μ0 : z_Mem} {d : Nat} {K : Int → z_Mem → Prop} {Kn : z_Mem → Prop}
/-- the reference's rim -/
def zRim (m : z_Mem) (p : zP) : Prop := m 113 41 = 2 * pF p + 2 ∧ ∀ k, 0 ≤ k → k < 2 * pF p + 2 → m 140 k = zrS p k ∧ m 141 k = zrA p k
theorem e12_nextSide (ha : 0 ≤ a ∧ a < 1000) (h : K (znx a) μ) : z_ci m_X12_nextSide [(0, a)] μ d K := by
  refine V_X12_nextSide ⟨(by first | omega | exact ⟨by omega, by omega⟩), (by first | omega | exact ⟨by omega, by omega⟩), (by first | omega | exact ⟨by omega, by omega⟩), (by first | omega | exact ⟨by omega, by omega⟩), (by first | omega | exact ⟨by omega, by omega⟩), ?_⟩
  rw [show a / 4 * 4 + (a + 1) % 4 = znx a by unfold znx; omega]
  exact h
/-- all that the rim leaves alone -/
def zfR (μ m : z_Mem) : Prop := ∀ x i, ¬ (x = 113 ∧ i = 41) → (x < 130 ∨ 132 < x) → x ≠ 140 → x ≠ 141 → m x i = μ x i
theorem zfR_c (hc : zMn' μ p) (hv : zV p) {m : z_Mem} (h : zfR μ m) : zMn' m p := zMn_fr hc hv.1 (fun x i w => h x i (by omega) (by omega) (by omega) (by omega))
theorem e12_isCutSide (hv : zV p) (hc : zMn' μ p) (ha : 0 ≤ a ∧ a < 4 * pF p) (hy : pH p (pe p a) = false → K 1 μ) (hn : pH p (pe p a) = true → K 0 μ) : z_ci m_X12_isCutSide [(2, 113), (0, a)] μ (d + 1) K := by
  have sk := zV_sk hv
  have F0 : 0 ≤ pF p ∧ pF p ≤ 30 := sk.1
  have G : zGm μ (pF p) (pa p) (pe p) (pq p) := zMK_G hc.1
  obtain ⟨s1, s2, s3, s4, s5, s6⟩ := sk.2.1 _ ha.1 ha.2
  refine V_X12_isCutSide ?_
  rw [(G.2.2.1 _ ha.1 ha.2).2.2]
  exact ⟨(by first | omega | exact ⟨by omega, by omega⟩), e12_isHinge (zRwM_H hc.2) (by omega) (fun hz => zy1 (hn hz)) (fun hz => zy0 (hy hz))⟩
theorem e12_laysRim (hv : zV p) (hc : zMn' μ p) (hy : zWo p → ∀ m, zfR μ m → zRim m p → K 1 m) (hn : ¬ zWo p → ∀ m, zfR μ m → K 0 m) : z_ci m_X12_laysRim [(2, 113)] μ (d + 4) K := by
  have sk := zV_sk hv
  have F0 : 0 ≤ pF p ∧ pF p ≤ 30 := sk.1
  refine V_X12_laysRim (e12_isWhole hv hc (fun hw m0 f0 => zy1 ?_) (fun hw m0 f0 => zy0 (hn hw m0 (fun x i a b c e => f0 x i (by omega) (by omega) (by omega)))))
  have fR0 : zfR μ m0 := fun x i a b c e => f0 x i (by omega) (by omega) (by omega)
  have F1 := hw.1
  obtain ⟨h1, h2, h3, h4, h5, h6, h7, h8⟩ := zrim hv hw
  have main : ∀ k, 0 ≤ k → k ≤ 2 * pF p + 2 → ∀ m : z_Mem, zfR μ m → m 113 41 = k → (∀ j, 0 ≤ j → j < k → m 140 j = zrS p j) → (∀ j, 1 ≤ j → j ≤ k → j < 2 * pF p + 2 → m 141 j = zrA p j) → (k = 2 * pF p + 2 → m 141 0 = zrA p 0) → z_ri m_X12_laysRim 34 [some (2, 113), some (0, pu p), some (0, if k < 2 * pF p + 2 then zrS p k else pu p), some (0, if k < 2 * pF p + 2 then 1 else 0), none] m (d + 4) K := by
    refine z_up (fun k k0 k1 ih m hf h41 hs ha hl => V_X12_laysRim_34 ?_)
    by_cases q : k < 2 * pF p + 2
    · rw [if_pos q, if_pos q, h41]
      refine ⟨fun x => absurd x (by decide), fun _ => ?_⟩
      have kr : 0 ≤ k ∧ k < 2 * pF p + 2 := ⟨k0, q⟩
      obtain ⟨sr, sc⟩ := zrS_r hv hw kr
      obtain ⟨n1, n2, n3, n4⟩ := znt_p hv hw kr
      obtain ⟨a1, a2, a3⟩ := zrt_p hv hw kr
      have e41 : z_st m 140 k (zrS p k) 113 41 = k := by rw [z_st_ne (by decide)]; exact h41
      rw [e41]
      refine ⟨(by first | omega | exact ⟨by omega, by omega⟩), (by first | omega | exact ⟨by omega, by omega⟩), e12_nextSide (by omega) ?_⟩
      generalize hm1 : z_st (z_st m 140 k (zrS p k)) 113 41 (k + 1) = m1
      have f1 : zfR μ m1 := fun x i c1 c2 c3 c4 => by
        rw [← hm1, z_st_nx c1, z_st_ne c3]
        exact hf x i c1 c2 c3 c4
      have C1 := zfR_c hc hv f1
      have G1 : zGm m1 (pF p) (pa p) (pe p) (pq p) := zMK_G C1.1
      have s1 : ∀ j, 0 ≤ j → j < k + 1 → m1 140 j = zrS p j := fun j j0 j1 => by
        rw [← hm1, z_st_ne (by decide)]
        by_cases w : j = k
        · rw [w, z_st_eq]
        · rw [z_st_ni w]
          exact hs j j0 (by omega)
      have g1 : m1 113 41 = k + 1 := by rw [← hm1, z_st_eq]
      have ha1 : ∀ j, 1 ≤ j → j ≤ k → j < 2 * pF p + 2 → m1 141 j = zrA p j := fun j j0 j1 j2 => by rw [← hm1, z_st_ne (by decide), z_st_ne (by decide)]; exact ha j j0 j1 j2
      have inner : ∀ lo, lo = zrt p k + 1 → 0 ≤ lo → ∀ t, lo ≤ t → t ≤ znt p k → z_ri m_X12_laysRim 66 [some (2, 113), some (0, pu p), some (0, zta p t), none, some (0, t - zrt p k)] m1 (d + 4) K := by
        intro lo hlo lo0
        refine z_up (fun t t0 t1 iht => V_X12_laysRim_66 (e12_isCutSide hv C1 (h7 t) (fun hz => zy1 ?_) (fun hz => zy0 ?_)))
        · have te : t = znt p k := by
            rcases (by omega : t < znt p k ∨ t = znt p k) with w | w
            · have := n3 t (by omega) w
              unfold zct at this
              rw [hz] at this
              cases this
            · exact w
          refine ⟨fun x => ?_, fun x => ?_⟩
          · have kM : k + 1 = 2 * pF p + 2 := by
              rcases (by omega : k + 1 < 2 * pF p + 2 ∨ k + 1 = 2 * pF p + 2) with w | w
              · rw [te] at x
                unfold znt at x
                rw [if_pos w] at x
                have := zrS_inj hv hw (k := k + 1) (a := 0) (by omega) (by omega) (by
                  show zta p (zrt p (k + 1)) = zta p (zrt p 0)
                  rw [x, zrt_0 hv hw, zta_0])
                omega
              · exact w
            have := ih q (z_st m1 141 0 (t - zrt p k)) (fun x i c1 c2 c3 c4 => by rw [z_st_ne c4]; exact f1 x i c1 c2 c3 c4) (by rw [z_st_ne (by decide)]; exact g1) (fun j j0 j1 => by rw [z_st_ne (by decide)]; exact s1 j j0 j1) (fun j j0 j1 j2 => by rw [z_st_ni (by omega)]; exact ha1 j j0 (by omega) j2) (fun _ => by
              rw [z_st_eq, te]
              unfold zrA znt
              rw [if_pos rfl, if_neg (by omega), show 2 * pF p + 1 = k by omega])
            rw [if_neg (by omega), if_neg (by omega)] at this
            rw [x]
            exact this
          · have kM : k + 1 < 2 * pF p + 2 := by
              rcases (by omega : k + 1 < 2 * pF p + 2 ∨ k + 1 = 2 * pF p + 2) with w | w
              · exact w
              · rw [te] at x
                unfold znt at x
                rw [if_neg (by omega)] at x
                exact absurd h4 x
            rw [g1]
            refine ⟨(by first | omega | exact ⟨by omega, by omega⟩), ?_⟩
            have := ih q (z_st m1 141 (k + 1) (t - zrt p k)) (fun x i c1 c2 c3 c4 => by rw [z_st_ne c4]; exact f1 x i c1 c2 c3 c4) (by rw [z_st_ne (by decide)]; exact g1) (fun j j0 j1 => by rw [z_st_ne (by decide)]; exact s1 j j0 j1) (fun j j0 j1 j2 => by
              by_cases w : j = k + 1
              · rw [w, z_st_eq, te]
                unfold zrA znt
                rw [if_pos (by omega), if_neg (by omega), show k + 1 - 1 = k by omega]
              · rw [z_st_ni w]
                exact ha1 j j0 (by omega) j2) (fun w => by omega)
            rw [if_pos kM, if_pos kM] at this
            have e : zta p t = zrS p (k + 1) := by
              rw [te]
              unfold znt
              rw [if_pos (by omega)]
              rfl
            rw [e]
            exact this
        · have tn : t < znt p k := by
            rcases (by omega : t < znt p k ∨ t = znt p k) with w | w
            · exact w
            · rw [w, n4] at hz
              cases hz
          have tr := h7 t
          obtain ⟨u1, u2, u3, u4, u5, u6⟩ := sk.2.1 _ tr.1 tr.2
          obtain ⟨w1, w2, w3⟩ := G1.2.2.1 _ tr.1 tr.2
          refine V_X12_mate ?_
          rw [w1, w2, show 4 * (pa p (zta p t) / 4) + pa p (zta p t) % 4 = pa p (zta p t) by omega]
          refine ⟨(by first | omega | exact ⟨by omega, by omega⟩), (by first | omega | exact ⟨by omega, by omega⟩), (by first | omega | exact ⟨by omega, by omega⟩), (by first | omega | exact ⟨by omega, by omega⟩), e12_nextSide (by omega) ⟨(by first | omega | exact ⟨by omega, by omega⟩), ?_⟩⟩
          have := iht tn
          rw [zta_s (by omega), zpi_hinge hz, show t + 1 - zrt p k = t - zrt p k + 1 by omega] at this
          exact this
      have := inner _ rfl (by omega) (zrt p k + 1) (by omega) (by omega)
      rw [zta_s a1.1, (show zta p (zrt p k) = zrS p k from rfl), zpi_cut sc, show zrt p k + 1 - zrt p k = 1 by omega] at this
      exact this
    · rw [if_neg q, if_neg q]
      refine ⟨fun _ => hy hw m hf ⟨by omega, fun j j0 j1 => ⟨hs j j0 (by omega), ?_⟩⟩, fun x => absurd rfl x⟩
      by_cases w : j = 0
      · rw [w]
        exact hl (by omega)
      · exact ha j (by omega) (by omega) j1
  have first : ∀ s, 0 ≤ s → s ≤ pu p → z_ri m_X12_laysRim 11 [some (2, 113), some (0, s), none, none, none] m0 (d + 4) K := by
    have C0 := zfR_c hc hv fR0
    refine z_up (fun s s0 s1 ih => V_X12_laysRim_11 (e12_isCutSide hv C0 (by omega) (fun hz => zy1 ?_) (fun hz => zy0 ⟨(by first | omega | exact ⟨by omega, by omega⟩), ih ?_⟩)))
    · have e : s = pu p := by
        rcases (by omega : s < pu p ∨ s = pu p) with w | w
        · rw [h3 s s0 w] at hz
          cases hz
        · exact w
      have := main 0 (by omega) (by omega) (z_st m0 113 41 0) (fun x i c1 c2 c3 c4 => by rw [z_st_nx c1]; exact fR0 x i c1 c2 c3 c4) z_st_eq (fun j j0 j1 => by omega) (fun j j0 j1 => by omega) (fun w => by omega)
      rw [if_pos (by omega), if_pos (by omega), (show zrS p 0 = zta p (zrt p 0) from rfl), zrt_0 hv hw, zta_0] at this
      rw [e]
      exact this
    · rcases (by omega : s < pu p ∨ s = pu p) with w | w
      · exact w
      · rw [w, h2] at hz
        cases hz
  exact first 0 (by omega) h1.1
theorem e12_partner (hv : zV p) (hw : zWo p) (hc : zMn' μ p) (hr : zRim μ p) (hk : 0 ≤ k ∧ k < 2 * pF p + 2) (h : K (zrP p k) μ) : z_ci m_X12_partner [(2, 113), (0, k)] μ (d + 2) K := by
  have sk := zV_sk hv
  have F0 : 0 ≤ pF p ∧ pF p ≤ 30 := sk.1
  have G : zGm μ (pF p) (pa p) (pe p) (pq p) := zMK_G hc.1
  obtain ⟨sr, sc⟩ := zrS_r hv hw hk
  obtain ⟨s1, s2, s3, s4, s5, s6⟩ := sk.2.1 _ sr.1 sr.2
  obtain ⟨g2, g3, g4⟩ := G.2.2.1 _ sr.1 sr.2
  obtain ⟨p1, p2⟩ := zrP_r hv hw hk
  refine V_X12_partner ⟨(by first | omega | exact ⟨by omega, by omega⟩), ?_⟩
  rw [(hr.2 k hk.1 hk.2).1]
  refine V_X12_mate ?_
  rw [g2, g3, show 4 * (pa p (zrS p k) / 4) + pa p (zrS p k) % 4 = pa p (zrS p k) by omega]
  refine ⟨(by first | omega | exact ⟨by omega, by omega⟩), (by first | omega | exact ⟨by omega, by omega⟩), (by first | omega | exact ⟨by omega, by omega⟩), (by first | omega | exact ⟨by omega, by omega⟩), ?_⟩
  have key : ∀ j, 0 ≤ j → j ≤ zrP p k → z_ri m_X12_partner 13 [some (2, 113), none, some (0, pa p (zrS p k)), some (0, j)] μ (d + 2) K := by
    refine z_up (fun j j0 j1 ih => V_X12_partner_13 ?_)
    rw [(hr.2 j j0 (by omega)).1, ← p2]
    refine ⟨(by first | omega | exact ⟨by omega, by omega⟩), fun x => ?_, fun x => ⟨(by first | omega | exact ⟨by omega, by omega⟩), ?_⟩⟩
    · have := zrS_inj hv hw (k := j) (a := zrP p k) (by omega) p1 x
      rw [this]
      exact h
    · have := ih (by
        rcases (by omega : j < zrP p k ∨ j = zrP p k) with w | w
        · exact w
        · rw [w] at x
          exact absurd rfl x)
      rw [← p2] at this
      exact this
  exact key 0 (by omega) p1.1
noncomputable def zaM (p : zP) (k b : Int) : Int := if zpd (zWo p) = true ∧ ¬ k < -1 ∧ k < 2 * pF p + 2 then (if k = -1 then (if b = 0 then 2 * pF p + 2 else -1) else if b = 0 then zrS p k / 4 else if b = 1 then zrS p k % 4 else if b = 2 then zrA p k else if b = 3 then zrP p k else -1) else -1
theorem e_traceB (hv : zV p) (hc : zCn' μ p) (hb : ¬ μ 39 0 = 0 → zWo p → zBor μ p) (hy : zWo p → ∀ m, (∀ x i, ¬ (x = 39 ∧ (i = 0 ∨ i = 1)) → (x < 40 ∨ 43 < x) → m x i = μ x i) → ¬ m 39 0 = 0 → zBor m p → K 1 m) (hn : ¬ zWo p → K 0 μ) : z_ci m_X11_traceBorder [(2, 1)] μ (d + 4) K :=
  V_X11_traceBorder (e_allJoined hv hc (fun hw => zy1 (e_trace hv hw hc (fun x => hb x hw) (fun m f1 k1 b1 => hy hw m f1 k1 b1))) (fun hw => zy0 (hn hw)))
theorem e_rim (hv : zV p) (hc : zCn' μ p) (hb : ¬ μ 39 0 = 0 → zWo p → zBor μ p) (hk : ∀ m, (∀ x i, ¬ (x = 39 ∧ (i = 0 ∨ i = 1)) → (x < 40 ∨ 43 < x) → m x i = μ x i) → (m 39 0 = μ 39 0 ∧ (∀ i, m 39 i = μ 39 i) ∧ (∀ x i, 40 ≤ x → x ≤ 43 → m x i = μ x i) ∨ (zWo p ∧ zBor m p)) → K (zaM p a b) m) : z_ci m_X11_rim [(2, 1), (0, a), (0, b)] μ (d + 8) K := by
  have F0 : 0 ≤ pF p ∧ pF p ≤ 30 := (zV_sk hv).1
  refine V_X11_rim (e_traceB hv hc hb (fun hw m f1 k1 b1 => zy1' ?_) (fun hw => zy0' ?_))
  · have hk := hk m f1 (Or.inr ⟨hw, b1⟩)
    unfold zaM at hk
    rw [zpd_t hw] at hk
    rw [b1.1]
    refine ⟨fun q => ?_, fun q => ⟨fun q2 => ⟨fun q3 => ?_, fun q3 => ⟨fun q4 => ?_, fun q4 => ?_⟩⟩, fun q2 => ?_⟩⟩
    · rw [if_neg (fun w => w.2.1 q)] at hk
      exact hk
    · rw [if_pos ⟨rfl, by omega, q2⟩, if_neg q3] at hk
      obtain ⟨c1, c2, c3⟩ := b1.2 a (by omega) q2
      rw [c1, c2, c3]
      have sr := (zrS_r hv hw (k := a) (by omega)).1
      refine ⟨fun w => ⟨(by first | omega | exact ⟨by omega, by omega⟩), ?_⟩, fun w => ⟨(by first | omega | exact ⟨by omega, by omega⟩), ?_⟩, fun w => ⟨(by first | omega | exact ⟨by omega, by omega⟩), ?_⟩, fun w => ⟨(by first | omega | exact ⟨by omega, by omega⟩), ?_⟩, fun w => ?_⟩
      · rw [if_pos w] at hk
        exact hk
      · rw [if_neg (by omega), if_pos w] at hk
        exact hk
      · rw [if_neg (by omega), if_neg (by omega), if_pos w] at hk
        exact hk
      · rw [if_neg (by omega), if_neg (by omega), if_neg (by omega), if_pos w] at hk
        exact hk
      · rw [if_neg (by omega), if_neg (by omega), if_neg (by omega), if_neg (by omega)] at hk
        exact hk
    · rw [if_pos ⟨rfl, by omega, q2⟩, if_pos q3, if_neg q4] at hk
      exact hk
    · rw [if_pos ⟨rfl, by omega, q2⟩, if_pos q3, if_pos q4] at hk
      exact hk
    · rw [if_neg (by omega)] at hk
      exact hk
  · have hk := hk μ (fun _ _ _ _ => rfl) (Or.inl ⟨rfl, fun _ => rfl, fun _ _ _ _ => rfl⟩)
    unfold zaM at hk
    rw [zpd_f hw, if_neg (fun w => by cases w.1)] at hk
    exact hk
theorem e12_rim (hv : zV p) (hc : zMn' μ p) (hk : ∀ m, zfR μ m → K (zaM p a b) m) : z_ci m_X12_rim [(2, 113), (0, a), (0, b)] μ (d + 8) K := by
  have F0 : 0 ≤ pF p ∧ pF p ≤ 30 := (zV_sk hv).1
  refine V_X12_rim (e12_laysRim hv hc (fun hw m f1 b1 => zy1 ?_) (fun hw m f1 => zy0 ?_))
  · have hk := hk m f1
    unfold zaM at hk
    rw [zpd_t hw] at hk
    rw [b1.1]
    refine ⟨fun q => ⟨(by first | omega | exact ⟨by omega, by omega⟩), e_in (fun q2 => zy0 ?_) (fun q2 => zy1 ?_)⟩, fun q => ⟨fun q2 => ?_, fun q2 => ?_⟩⟩
    · by_cases w : a < -1
      · rw [if_neg (fun x => x.2.1 w)] at hk
        exact hk
      · rw [if_neg (by omega)] at hk
        exact hk
    · have ar : 0 ≤ a ∧ a < 2 * pF p + 2 := by omega
      rw [if_pos ⟨rfl, by omega, ar.2⟩, if_neg q] at hk
      obtain ⟨c1, c2⟩ := b1.2 a ar.1 ar.2
      rw [c1, c2]
      have sr := (zrS_r hv hw ar).1
      refine ⟨fun w => ⟨(by first | omega | exact ⟨by omega, by omega⟩), (by first | omega | exact ⟨by omega, by omega⟩), ?_⟩, fun w => ⟨(by first | omega | exact ⟨by omega, by omega⟩), (by first | omega | exact ⟨by omega, by omega⟩), ?_⟩, fun w => ⟨(by first | omega | exact ⟨by omega, by omega⟩), ?_⟩, fun w => ?_, fun w => ?_⟩
      · rw [if_pos w] at hk
        exact hk
      · rw [if_neg (by omega), if_pos w] at hk
        exact hk
      · rw [if_neg (by omega), if_neg (by omega), if_pos w] at hk
        exact hk
      · rw [if_neg (by omega), if_neg (by omega), if_neg (by omega), if_pos w] at hk
        exact e12_partner hv hw (zfR_c hc hv f1) b1 ar hk
      · rw [if_neg (by omega), if_neg (by omega), if_neg (by omega), if_neg (by omega)] at hk
        exact hk
    · rw [if_pos ⟨rfl, by omega, by omega⟩, if_pos q, if_neg q2] at hk
      exact hk
    · rw [if_pos ⟨rfl, by omega, by omega⟩, if_pos q, if_pos q2] at hk
      exact hk
  · have hk := hk m f1
    unfold zaM at hk
    rw [zpd_f hw, if_neg (fun w => by cases w.1)] at hk
    exact hk
end RJ

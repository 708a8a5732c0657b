/-! span -/
noncomputable def zsw (p : zP) (w : Int) (H0 : Int → Bool) : Nat → (Int → Bool) × Int
  | 0 => (H0, 0)
  | j + 1 => if zpd (pW p j = w ∧ ¬ zje (psH p (zsw p w H0 j).1) j) = true then (zon (zsw p w H0 j).1 j, (zsw p w H0 j).2 + 1) else zsw p w H0 j
noncomputable def zsa (p : zP) : Nat → (Int → Bool) × Int
  | 0 => (fun _ => false, 0)
  | t + 1 => ((zsw p t (zsa p t).1 (2 * pF p).toNat).1, (zsa p t).2 + t * (zsw p t (zsa p t).1 (2 * pF p).toNat).2)
section SP
variable {a b k v : Int} {p : zP} {Q : Int → zP} {μ μ0 : z_Mem} {d : Nat} {K : Int → z_Mem → Prop} {Kn : z_Mem → Prop}
theorem zsw_V {w : Int} {H0 : Int → Bool} (h : zV (psH p H0)) : ∀ j : Nat, (j : Int) ≤ 2 * pF p → zV (psH p (zsw p w H0 j).1) ∧ 0 ≤ (zsw p w H0 j).2 ∧ (zsw p w H0 j).2 ≤ j := by
  intro j
  induction j with
  | zero => exact fun _ => ⟨h, Int.le_refl _, Int.le_refl _⟩
  | succ j ih =>
    intro hj
    obtain ⟨i1, i2, i3⟩ := ih (by omega)
    show zV (psH p (if _ then _ else _ : (Int → Bool) × Int).1) ∧ 0 ≤ (if _ then _ else _ : (Int → Bool) × Int).2 ∧ (if _ then _ else _ : (Int → Bool) × Int).2 ≤ _
    by_cases q : zpd (pW p j = w ∧ ¬ zje (psH p (zsw p w H0 j).1) j) = true
    · rw [if_pos q]
      refine ⟨?_, by show 0 ≤ _ + 1; omega, by show _ + 1 ≤ _; omega⟩
      exact zV_on i1 (by have : 0 ≤ (j : Int) ∧ (j : Int) < 2 * pF p := by omega
                         exact this) (zpd_i.mp q).2
    · rw [if_neg q]
      exact ⟨i1, i2, by omega⟩
theorem zV_0 (hv : zV p) : zV (psH p (fun _ => false)) := by
  obtain ⟨a1, a2, a3, a4, a5, a6, a7⟩ := hv
  exact ⟨a1, a2, a3, zFo_0 (fun _ => rfl), fun _ _ => rfl, a6, a7⟩
theorem zsa_V (hv : zV p) : ∀ t : Nat, t ≤ 10 → zV (psH p (zsa p t).1) ∧ 0 ≤ (zsa p t).2 ∧ (zsa p t).2 ≤ 600 * t := by
  intro t
  have F0 := (zV_sk hv).1
  induction t with
  | zero => exact fun _ => ⟨zV_0 hv, Int.le_refl _, Int.le_refl _⟩
  | succ t ih =>
    intro ht
    obtain ⟨i1, i2, i3⟩ := ih (by omega)
    obtain ⟨j1, j2, j3⟩ := zsw_V (w := t) i1 (2 * pF p).toNat (by show (((2 * pF p).toNat : Nat) : Int) ≤ 2 * pF p; omega)
    refine ⟨j1, ?_, ?_⟩
    · show 0 ≤ (zsa p t).2 + t * (zsw p t (zsa p t).1 (2 * pF p).toNat).2
      have := Int.mul_nonneg (by omega : (0 : Int) ≤ t) j2
      omega
    · show (zsa p t).2 + t * (zsw p t (zsa p t).1 (2 * pF p).toNat).2 ≤ _
      have : (t : Int) * (zsw p t (zsa p t).1 (2 * pF p).toNat).2 ≤ 9 * (zsw p t (zsa p t).1 (2 * pF p).toNat).2 := Int.mul_le_mul_of_nonneg_right (by omega) j2
      omega
/-- the class stands among its hinges -/
def zBc (μ m : z_Mem) (p : zP) (H : Int → Bool) : Prop := (∀ x i, ¬ (x = 21 ∧ i = 0) → x ≠ 17 → x ≠ 18 → m x i = μ x i) ∧ zRwC m 21 (psH p H)
theorem e_spanBy {w : Int} {H0 : Int → Bool} (hv : zV (psH p H0)) (hc : zCK μ (pS p) (pn p)) (hb : zBc μ μ0 p H0) (hk : ∀ m, zBc μ m p (zsw p w H0 (2 * pF p).toNat).1 → K (zsw p w H0 (2 * pF p).toNat).2 m) : z_ci m_X11_spanBy [(2, 1), (0, w)] μ0 (d + 3) K := by
  have sk : zSK (pF p) (pa p) (pe p) (pq p) := zV_sk (p := psH p H0) hv
  have F0 := sk.1
  have key : ∀ j : Int, 0 ≤ j → j ≤ 2 * pF p → ∀ m, zBc μ m p (zsw p w H0 j.toNat).1 → z_ri m_X11_spanBy 4 [some (2, 1), some (0, w), some (0, (zsw p w H0 j.toNat).2), some (0, j)] m (d + 3) K := by
    refine z_up (fun j j0 j1 ih m hm => V_X11_spanBy_4 ?_)
    have C : zCK m (pS p) (pn p) := zCK_fr hc (fun o i _ _ => hm.1 o i (by omega) (by omega) (by omega))
    have G : zGc m (pF p) (pa p) (pe p) (pq p) := zCK_G C
    obtain ⟨v1, v2, v3⟩ := zsw_V (w := w) hv j.toNat (by show ((j.toNat : Nat) : Int) ≤ 2 * pF p; omega)
    rw [G.2.1]
    have F1 : pF p ≤ 30 := F0.2
    refine ⟨fun q => ?_, fun q => ⟨fun q3 => by omega, fun q4 => ⟨by omega, ?_⟩⟩⟩
    · obtain rfl : j = 2 * pF p := by omega
      exact hk m hm
    · have jr : 0 ≤ j ∧ j < 2 * pF p := ⟨j0, q⟩
      obtain ⟨w1, w2, w3⟩ : (0 ≤ pq p j ∧ pq p j < 4 * pF p) ∧ pe p (pq p j) = j ∧ pF p ≤ 30 := zV_e (p := psH p H0) hv jr
      obtain ⟨s1, s2, s3, s4, s5, s6⟩ := sk.2.1 _ w1.1 w1.2
      have eW : m 22 j = pW p j := hm.2.2.2 j j0 q4
      have ej : ((j.toNat : Nat) : Int) = j := by omega
      have nx : (j + 1).toNat = j.toNat + 1 := by omega
      have st : zsw p w H0 (j + 1).toNat = if zpd (pW p j = w ∧ ¬ zje (psH p (zsw p w H0 j.toNat).1) j) = true then (zon (zsw p w H0 j.toNat).1 j, (zsw p w H0 j.toNat).2 + 1) else zsw p w H0 j.toNat := by
        rw [nx]
        show (if zpd (pW p ((j.toNat : Nat) : Int) = w ∧ ¬ zje (psH p (zsw p w H0 j.toNat).1) ((j.toNat : Nat) : Int)) = true then (zon (zsw p w H0 j.toNat).1 ((j.toNat : Nat) : Int), _) else _) = _
        rw [ej]
      rw [eW]
      refine ⟨fun q5 => ⟨⟨by omega, by omega⟩, ?_⟩, fun q6 => ?_⟩
      · rw [if_neg (by rw [zpd_i]; exact fun x => q5 x.1)] at st
        have := ih q m (by rw [st]; exact hm)
        rw [st] at this
        exact this
      · refine e_faceOf G w3 jr (Or.inl rfl) (e_faceOf G w3 jr (Or.inr rfl) ?_)
        rw [if_pos rfl, if_neg (by decide)]
        refine e_isJoined sk G hm.2.1 (by omega) (by omega) (fun m2 u hm2 hj => ⟨fun _ => ⟨⟨by omega, by omega⟩, ?_⟩, fun x => absurd x (by decide)⟩) (fun m2 u hm2 hj => ⟨fun x => absurd rfl x, fun _ => ?_⟩)
        · rw [if_neg (by rw [zpd_i]; exact fun x => x.2 hj)] at st
          have := ih q m2 (by
            rw [st]
            exact ⟨fun x i a b c => by rw [hm2.1 x i b c]; exact hm.1 x i a b c, zRwC_fr hm.2 (fun x i _ => hm2.1 x i (by omega) (by omega))⟩)
          rw [st] at this
          exact this
        · rw [if_pos (by rw [zpd_i]; exact ⟨q6, hj⟩)] at st
          refine e_setHinge (p := psH p (zsw p w H0 j.toNat).1) (zRwC_fr hm.2 (fun x i _ => hm2.1 x i (by omega) (by omega))) ⟨j0, q4⟩ (fun r3 => ⟨⟨by omega, by omega⟩, ⟨by omega, by omega⟩, ?_⟩)
          have := ih q (z_st m2 21 0 (zor (m2 21 0) j)) (by
            rw [st]
            exact ⟨fun x i a b c => by rw [z_st_nx a, hm2.1 x i b c]; exact hm.1 x i a b c, r3⟩)
          rw [st] at this
          exact this
  exact V_X11_spanBy (key 0 (by omega) (by omega) μ0 hb)
theorem e_span (hv : zV p) (hc : zCn' μ p) (hh : zHC μ k Q) (h1 : pF p = 0 → K (-1) μ) (h4 : ¬ pF p = 0 → ∀ m, zfA μ m → m 29 0 = 0 → m 39 0 = 0 → m 44 0 = 0 → zCn' m (psH p (zsa p 10).1) → zHC m (min (k + 1) 10) (zpush k Q p) → K (zsa p 10).2 m) : z_ci m_X11_span [(2, 1)] μ (d + 8) K := by
  have sk := zV_sk hv
  have G : zGc μ (pF p) (pa p) (pe p) (pq p) := zCK_G hc.1
  refine V_X11_span ?_
  rw [G.1]
  refine ⟨fun q => ?_, h1⟩
  refine e_remember hh hc.2.1 (fun m2 f2 h2' => ?_)
  have key : ∀ t : Int, 0 ≤ t → t ≤ 10 → ∀ m, zBc (z_st m2 21 0 0) m p (zsa p t.toNat).1 → z_ri m_X11_span 35 [some (2, 1), some (0, (zsa p t.toNat).2), some (0, t)] m (d + 8) K := by
    refine z_up (fun t t0 t1 ih m hm => V_X11_span_35 ?_)
    have C2 : zCK (z_st m2 21 0 0) (pS p) (pn p) := zCK_fr hc.1 (fun o i _ _ => by rw [z_st_ne (by omega)]; exact f2 o i (by omega))
    obtain ⟨v1, v2, v3⟩ := zsa_V hv t.toNat (by omega)
    refine ⟨fun q9 => ?_, fun q9 => ?_⟩
    · obtain rfl : t = 10 := by omega
      refine e_act (μ0 := μ) (p' := psH p (zsa p 10).1) v1 (zCK_fr C2 (fun o i _ _ => hm.1 o i (by omega) (by omega) (by omega))) hm.2 (fun x i w => ?_) (k' := min (k + 1) 10) (Q' := zpush k Q p) (zHC_fr h2' (fun x i _ _ => ?_)) (fun m4 f4 c1 c2 c3 c4 c5 => h4 q m4 f4 c1 c2 c3 c4 c5)
      · rw [hm.1 x i (by omega) (by omega) (by omega), z_st_ne (by omega)]
        exact f2 x i (by omega)
      · rw [hm.1 x i (by omega) (by omega) (by omega), z_st_ne (by omega)]
    · refine e_spanBy v1 C2 hm (fun m' hm' => ?_)
      have F0 := sk.1
      obtain ⟨u1, u2, u3⟩ := zsw_V (w := t) v1 (2 * pF p).toNat (by show (((2 * pF p).toNat : Nat) : Int) ≤ 2 * pF p; omega)
      have st : zsa p (t + 1).toNat = ((zsw p t (zsa p t.toNat).1 (2 * pF p).toNat).1, (zsa p t.toNat).2 + t * (zsw p t (zsa p t.toNat).1 (2 * pF p).toNat).2) := by
        rw [show (t + 1).toNat = t.toNat + 1 by omega]
        show ((zsw p ((t.toNat : Nat) : Int) _ _).1, _ + ((t.toNat : Nat) : Int) * (zsw p ((t.toNat : Nat) : Int) _ _).2) = _
        rw [show ((t.toNat : Nat) : Int) = t by omega]
      have b1 : (0 : Int) ≤ t * (zsw p t (zsa p t.toNat).1 (2 * pF p).toNat).2 := Int.mul_nonneg t0 u2
      have b2 : t * (zsw p t (zsa p t.toNat).1 (2 * pF p).toNat).2 ≤ 9 * (zsw p t (zsa p t.toNat).1 (2 * pF p).toNat).2 := Int.mul_le_mul_of_nonneg_right (by omega) u2
      refine ⟨⟨by omega, by omega⟩, ⟨by omega, by omega⟩, ⟨by omega, by omega⟩, ?_⟩
      have := ih (by omega) m' (by rw [st]; exact hm')
      rw [st] at this
      exact this
  refine key 0 (by omega) (by omega) (z_st m2 21 0 0) ⟨fun _ _ _ _ _ => rfl, ⟨?_, ?_, fun e e0 e1 => ?_⟩⟩
  · rw [z_st_eq]
    exact ⟨⟨by decide, by decide⟩, fun e _ => zbt_0⟩
  · rw [z_st_ni (by decide), f2 21 1 (by omega)]
    exact hc.2.1.2.1
  · rw [z_st_ne (by decide), f2 _ _ (by omega)]
    exact hc.2.1.2.2 e e0 e1
/-! span: the reference -/
def zBm (μ m : z_Mem) (p : zP) (H : Int → Bool) : Prop := (∀ x i, x ≠ 114 → x ≠ 130 → x ≠ 131 → x ≠ 132 → m x i = μ x i) ∧ zRwM m 114 0 (psH p H)
theorem zMK_H {m m' : z_Mem} {p : zP} {H : Int → Bool} (hn : 0 ≤ pn p ∧ pn p ≤ 7) (h6 : z_c6 (pS p) (3 * pn p)) (hc : zMK m (pS p) (pn p)) (hf : ∀ o i, (121 ≤ o ∧ o ≤ 129) ∨ (o = 113 ∧ 21 ≤ i ∧ i ≤ 23) → m' o i = m o i) (hr : zRwM m' 114 0 (psH p H)) : zMK m' (pS p) (pn p) := by
  obtain ⟨⟨⟨a1, a2, a3, a4, a5⟩, a6, a7⟩, b, c, d, e, f⟩ := hc
  refine ⟨⟨⟨hr.1, hn.1, hn.2, fun i i0 i1 => ?_, h6⟩, ?_, fun g g0 g1 => ?_⟩, fun k k0 k1 => ?_, ?_, fun g g0 g1 => ?_, ?_, fun v v0 v1 => ?_⟩
  · have := hr.2.1 i i0 i1
    rw [Int.zero_add] at this
    exact this
  · rw [hf 113 21 (by omega)]
    exact a6
  · rw [hf 121 g (by omega), hf 122 g (by omega)]
    exact a7 g g0 g1
  · rw [hf 123 k (by omega), hf 124 k (by omega), hf 125 k (by omega), hf 126 k (by omega), hf 128 k (by omega)]
    exact b k k0 k1
  · rw [hf 113 22 (by omega)]
    exact c
  · rw [hf 127 g (by omega)]
    exact d g g0 g1
  · rw [hf 113 23 (by omega)]
    exact e
  · rw [hf 129 v (by omega)]
    exact f v v0 v1
theorem e12_cutsAll (hv : zV p) (h22 : μ0 113 22 = 2 * pF p) (hr : zRwM μ0 114 0 p) (hk : ∀ m, (∀ x i, x ≠ 114 → m x i = μ0 x i) → zRwM m 114 0 (psH p (fun _ => false)) → Kn m) : z_cn m_X12_cutsAll [(2, 113)] μ0 d Kn := by
  have F0 := (zV_sk hv).1
  have key : ∀ j : Int, 0 ≤ j → j ≤ 2 * pF p → ∀ m, (∀ x i, x ≠ 114 → m x i = μ0 x i) → zRwM m 114 0 (psH p (fun e => pH p e && !decide (e < j))) → z_rn m_X12_cutsAll 2 [some (2, 113), some (0, j)] m d Kn := by
    refine z_up (fun j j0 j1 ih m hf hm => V_X12_cutsAll_2 ?_)
    rw [hf 113 22 (by decide), h22]
    refine ⟨fun q => hk m hf ?_, fun q => ⟨⟨by omega, by omega⟩, by omega, ⟨by omega, by omega⟩, ih q _ (fun x i a => by rw [z_st_ne a]; exact hf x i a) ?_⟩⟩
    · have e : (fun e => pH p e && !decide (e < j)) = fun _ => false := funext fun e => by
        by_cases w : 0 ≤ e ∧ e < 2 * pF p
        · rw [decide_eq_true (by omega)]
          simp
        · rw [hv.2.2.2.2.1 e w]
          rfl
      rw [e] at hm
      exact hm
    · refine zRwM_set (p := psH p (fun e => pH p e && !decide (e < j))) (H := fun e => pH p e && !decide (e < j + 1)) hm hv.1 (by omega) ?_ (fun e he => ?_)
      · rw [decide_eq_true (by omega)]
        simp
        rfl
      · show (pH p e && !decide (e < j + 1)) = (pH p e && !decide (e < j))
        by_cases w : e < j
        · rw [decide_eq_true w, decide_eq_true (by omega)]
        · rw [decide_eq_false w, decide_eq_false (by omega)]
  refine V_X12_cutsAll (key 0 (by omega) (by omega) μ0 (fun _ _ _ => rfl) ?_)
  obtain ⟨a1, a2, a3, a4, a5⟩ := hr
  refine ⟨a1, a2, a3, fun e e0 e1 => ?_, a5⟩
  show _ = zi (pH p e && !decide (e < 0))
  rw [decide_eq_false (by omega), a4 e e0 e1]
  simp
theorem e12_span (hv : zV p) (hc : zMn' μ p) (hh : zHM μ k Q) (h1 : pF p = 0 → K (-1) μ) (h4 : ¬ pF p = 0 → ∀ m, (∀ x i, ¬ (x = 113 ∧ i = 6) → x ≠ 114 → x ≠ 117 → x ≠ 130 → x ≠ 131 → x ≠ 132 → m x i = μ x i) → zMn' m (psH p (zsa p 10).1) → zHM m (min (k + 1) 10) (zpush k Q p) → K (zsa p 10).2 m) : z_ci m_X12_span [(2, 113)] μ (d + 8) K := by
  have sk := zV_sk hv
  have F0 := sk.1
  have G : zGm μ (pF p) (pa p) (pe p) (pq p) := zMK_G hc.1
  refine V_X12_span ?_
  rw [G.1]
  refine ⟨fun q => ?_, h1⟩
  refine e12_keepsPast hh hc.2 hv.1 (fun m2 f2 h2' => ?_)
  refine e12_cutsAll hv (by rw [f2 113 22 (by omega) (by omega)]; exact G.2.1) (zRwM_fr hc.2 hv.1 (fun i _ _ => f2 114 i (by omega) (by omega))) (fun m3 f3 r3 => ?_)
  have KK : ∀ m H, zBm m3 m p H → zMK m (pS p) (pn p) := fun m H hm => zMK_H (p := p) (H := H) hv.1 hv.2.1 hc.1 (fun o i w => by rw [hm.1 o i (by omega) (by omega) (by omega) (by omega), f3 o i (by omega), f2 o i (by omega) (by omega)]) hm.2
  have key : ∀ t : Int, 0 ≤ t → t ≤ 10 → ∀ m, zBm m3 m p (zsa p t.toNat).1 → z_ri m_X12_span 21 [some (2, 113), some (0, (zsa p t.toNat).2), some (0, t), none] m (d + 8) K := by
    refine z_up (fun t t0 t1 ih m hm => V_X12_span_21 ?_)
    obtain ⟨v1, v2, v3⟩ := zsa_V hv t.toNat (by omega)
    refine ⟨fun q9 => ?_, fun q9 => ?_⟩
    · obtain rfl : t = 10 := by omega
      refine h4 q m (fun x i c1 c2 c3 c4 c5 c6 => ?_) ⟨KK m _ hm, hm.2⟩ (zHM_fr h2' ?_ (fun i _ => ?_))
      · rw [hm.1 x i c2 c4 c5 c6, f3 x i c2, f2 x i c1 c3]
      · rw [hm.1 113 6 (by omega) (by omega) (by omega) (by omega), f3 113 6 (by omega)]
      · rw [hm.1 117 i (by omega) (by omega) (by omega) (by omega), f3 117 i (by omega)]
    · have inner : ∀ j : Int, 0 ≤ j → j ≤ 2 * pF p → ∀ m, zBm m3 m p (zsw p t (zsa p t.toNat).1 j.toNat).1 → z_ri m_X12_span 29 [some (2, 113), some (0, (zsa p t.toNat).2 + t * (zsw p t (zsa p t.toNat).1 j.toNat).2), some (0, t), some (0, j)] m (d + 8) K := by
        refine z_up (fun j j0 j1 ih2 m hm => V_X12_span_29 ?_)
        have KM := KK m _ hm
        have G2 : zGm m (pF p) (pa p) (pe p) (pq p) := zMK_G KM
        obtain ⟨u1, u2, u3⟩ := zsw_V (w := t) v1 j.toNat (by show ((j.toNat : Nat) : Int) ≤ 2 * pF p; omega)
        have b1 : (0 : Int) ≤ t * (zsw p t (zsa p t.toNat).1 j.toNat).2 := Int.mul_nonneg t0 u2
        have b2 : t * (zsw p t (zsa p t.toNat).1 j.toNat).2 ≤ 9 * (zsw p t (zsa p t.toNat).1 j.toNat).2 := Int.mul_le_mul_of_nonneg_right (by omega) u2
        rw [G2.2.1]
        have F1 : pF p ≤ 30 := F0.2
        refine ⟨fun q8 => ⟨⟨by omega, by omega⟩, ?_⟩, fun q8 => ⟨⟨by omega, by omega⟩, by omega, ?_⟩⟩
        · obtain rfl : j = 2 * pF p := by omega
          have st : zsa p (t + 1).toNat = ((zsw p t (zsa p t.toNat).1 (2 * pF p).toNat).1, (zsa p t.toNat).2 + t * (zsw p t (zsa p t.toNat).1 (2 * pF p).toNat).2) := by
            rw [show (t + 1).toNat = t.toNat + 1 by omega]
            show ((zsw p ((t.toNat : Nat) : Int) _ _).1, _ + ((t.toNat : Nat) : Int) * (zsw p ((t.toNat : Nat) : Int) _ _).2) = _
            rw [show ((t.toNat : Nat) : Int) = t by omega]
          have := ih (by omega) m (by rw [st]; exact hm)
          rw [st] at this
          exact this
        · have jr : 0 ≤ j ∧ j < 2 * pF p := ⟨j0, q8⟩
          obtain ⟨w1, w2, w3⟩ := zV_e hv jr
          obtain ⟨s1, s2, s3, s4, s5, s6⟩ := sk.2.1 _ w1.1 w1.2
          have eW : m 114 (83 + j) = pW p j := zRwM_W hm.2 j0 (by omega)
          have ej : ((j.toNat : Nat) : Int) = j := by omega
          have nx : (j + 1).toNat = j.toNat + 1 := by omega
          have st : zsw p t (zsa p t.toNat).1 (j + 1).toNat = if zpd (pW p j = t ∧ ¬ zje (psH p (zsw p t (zsa p t.toNat).1 j.toNat).1) j) = true then (zon (zsw p t (zsa p t.toNat).1 j.toNat).1 j, (zsw p t (zsa p t.toNat).1 j.toNat).2 + 1) else zsw p t (zsa p t.toNat).1 j.toNat := by
            rw [nx]
            show (if zpd (pW p ((j.toNat : Nat) : Int) = t ∧ ¬ zje (psH p (zsw p t (zsa p t.toNat).1 j.toNat).1) ((j.toNat : Nat) : Int)) = true then (zon (zsw p t (zsa p t.toNat).1 j.toNat).1 ((j.toNat : Nat) : Int), _) else _) = _
            rw [ej]
          rw [eW]
          refine ⟨fun q5 => ⟨⟨by omega, by omega⟩, ?_⟩, fun q6 => ?_⟩
          · rw [if_neg (by rw [zpd_i]; exact fun x => q5 x.1)] at st
            have := ih2 q8 m (by rw [st]; exact hm)
            rw [st] at this
            exact this
          · refine e12_first G2 w3 w1.1 jr (e12_second G2 w3 w1 jr ?_)
            refine e12_areJoined sk G2 (zRwM_H hm.2) (by omega) (by omega) (fun m4 hm4 hj => ⟨fun _ => ⟨⟨by omega, by omega⟩, ?_⟩, fun x => absurd x (by decide)⟩) (fun m4 hm4 hj => ⟨fun x => absurd rfl x, fun _ => ⟨⟨by omega, by omega⟩, by omega, ⟨by omega, by omega⟩, ⟨by omega, by omega⟩, ?_⟩⟩)
            · rw [if_neg (by rw [zpd_i]; exact fun x => x.2 hj)] at st
              have := ih2 q8 m4 (by
                rw [st]
                exact ⟨fun x i a b c e => by rw [hm4.1 x i b c e]; exact hm.1 x i a b c e, zRwM_fr hm.2 hv.1 (fun i _ _ => hm4.1 114 i (by omega) (by omega) (by omega))⟩)
              rw [st] at this
              exact this
            · rw [if_pos (by rw [zpd_i]; exact ⟨q6, hj⟩)] at st
              have r4 : zRwM m4 114 0 (psH p (zsw p t (zsa p t.toNat).1 j.toNat).1) := zRwM_fr hm.2 hv.1 (fun i _ _ => hm4.1 114 i (by omega) (by omega) (by omega))
              have r5 := zRwM_set (H := zon (zsw p t (zsa p t.toNat).1 j.toNat).1 j) (x := 1) r4 hv.1 (by omega : 0 ≤ j ∧ j < 60) (by rw [zon_e]; rfl) (fun e he => zon_ne he)
              have := ih2 q8 (z_st m4 114 (23 + j) 1) (by
                rw [st]
                exact ⟨fun x i a b c e => by rw [z_st_ne a, hm4.1 x i b c e]; exact hm.1 x i a b c e, r5⟩)
              rw [st] at this
              have e1 : (zsa p t.toNat).2 + t * ((zsw p t (zsa p t.toNat).1 j.toNat).2 + 1) = (zsa p t.toNat).2 + t * (zsw p t (zsa p t.toNat).1 j.toNat).2 + t := by
                rw [Int.mul_add, Int.mul_one]
                omega
              rw [show (zon (zsw p t (zsa p t.toNat).1 j.toNat).1 j, (zsw p t (zsa p t.toNat).1 j.toNat).2 + 1).2 = (zsw p t (zsa p t.toNat).1 j.toNat).2 + 1 from rfl, e1] at this
              exact this
      have := inner 0 (by omega) (by omega) m hm
      have z0 : (zsw p t (zsa p t.toNat).1 (0 : Int).toNat).2 = 0 := rfl
      rw [z0, Int.mul_zero, Int.add_zero] at this
      exact this
  exact key 0 (by omega) (by omega) m3 ⟨fun _ _ _ _ _ _ => rfl, r3⟩
end SP

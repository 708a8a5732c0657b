/-! ACTS: the reference -/
section AD
variable {a b k v : Int} {p : zP} {Q : Int → zP} {μ μ0 : z_Mem} {d : Nat} {K : Int → z_Mem → Prop} {Kn : z_Mem → Prop}
theorem zhm_eq (hv : zV p) : zhm (pH p) = zHn (pF p) (pH p) := by
  have F30 := (zV_sk hv).1
  have e := zN_add (P := pH p) (2 * pF p).toNat (60 - (2 * pF p).toNat)
  have z : zN (60 - (2 * pF p).toNat) (fun i => pH p (((2 * pF p).toNat : Nat) + i)) = zN (60 - (2 * pF p).toNat) (fun _ => false) := zN_eq _ (fun i i0 i1 => hv.2.2.2.2.1 _ (by omega))
  have z0 : ∀ n : Nat, zN n (fun _ => false) = 0 := fun n => by
    induction n with
    | zero => rfl
    | succ n ih => rw [zN_s, ih]; rfl
  rw [z, z0, show (2 * pF p).toNat + (60 - (2 * pF p).toNat) = 60 by omega] at e
  unfold zhm zHn
  omega
theorem e12_hinges {F : Int} {H : Int → Bool} (hF : 0 ≤ F ∧ F ≤ 30) (h22 : μ 113 22 = 2 * F) (hH : zHm μ H) (hk : K (zHn F H) μ) : z_ci m_X12_hinges [(2, 113)] μ d K := by
  have key : ∀ j, 0 ≤ j → j ≤ 2 * F → z_ri m_X12_hinges 4 [some (2, 113), some (0, zN j.toNat H), some (0, j)] μ d K := by
    refine z_up (fun j j0 j1 ih => V_X12_hinges_4 ?_)
    rw [h22]
    refine ⟨fun q => ?_, fun q => ?_⟩
    · obtain rfl : j = 2 * F := by omega
      exact hk
    · have r := zN_r (P := H) j.toNat
      have i1 := zi_r (H j)
      rw [hH j j0 (by omega)]
      have := ih q
      rw [zN_up j0] at this
      exact ⟨⟨by omega, by omega⟩, by omega, ⟨by omega, by omega⟩, ⟨by omega, by omega⟩, this⟩
  exact V_X12_hinges (key 0 (by omega) (by omega))
theorem e12_first {F : Int} {ac ed es : Int → Int} (hG : zGm μ F ac ed es) (hF : F ≤ 30) (hs : 0 ≤ es a) (ha : 0 ≤ a ∧ a < 2 * F) (hk : K (es a / 4) μ) : z_ci m_X12_firstOf [(2, 113), (0, a)] μ d K := by
  refine V_X12_firstOf ?_
  rw [hG.2.2.2 a ha.1 ha.2]
  exact ⟨by omega, by omega, hk⟩
theorem e12_second {F : Int} {ac ed es : Int → Int} (hG : zGm μ F ac ed es) (hF : F ≤ 30) (hs : 0 ≤ es a ∧ es a < 4 * F) (ha : 0 ≤ a ∧ a < 2 * F) (hk : K (ac (es a) / 4) μ) : z_ci m_X12_secondOf [(2, 113), (0, a)] μ d K := by
  refine V_X12_secondOf ?_
  rw [hG.2.2.2 a ha.1 ha.2, (hG.2.2.1 _ hs.1 hs.2).1]
  exact ⟨by omega, by omega, hk⟩
theorem zRwM_set {m : z_Mem} {H : Int → Bool} {x : Int} (h : zRwM m 114 0 p) (hn : 0 ≤ pn p ∧ pn p ≤ 7) (ha : 0 ≤ a ∧ a < 60) (hx : x = zi (H a)) (hH : ∀ e, e ≠ a → H e = pH p e) : zRwM (z_st m 114 (23 + a) x) 114 0 (psH p H) := by
  obtain ⟨a1, a2, a3, a4, a5⟩ := h
  refine ⟨by rw [z_st_ni (by omega)]; exact a1, fun i i0 i1 => by have i1' : i < 3 * pn p := i1; rw [z_st_ni (by omega)]; exact a2 i i0 i1, by rw [z_st_ni (by omega)]; exact a3, fun e e0 e1 => ?_, fun e e0 e1 => by rw [z_st_ni (by omega)]; exact a5 e e0 e1⟩
  by_cases q : e = a
  · subst q
    rw [show 0 + (23 + e) = 23 + e by omega, z_st_eq, hx]
  · rw [z_st_ni (by omega)]
    show _ = zi (H e)
    rw [hH e q]
    exact a4 e e0 e1
theorem zi1 : (1 : Int) = zi true := rfl
theorem e12_hinge (hv : zV p) (hc : zMn' μ p) (hh : zHM μ k Q) (h1 : ¬ (0 ≤ a ∧ a < 2 * pF p) → K (-1) μ) (h2 : 0 ≤ a ∧ a < 2 * pF p → pH p a = true → K (-2) μ) (h3 : 0 ≤ a ∧ a < 2 * pF p → pH p a = false → zje p a → ∀ m, (∀ o i, o ≠ 130 → o ≠ 131 → o ≠ 132 → m o i = μ o i) → K (-3) m) (h4 : 0 ≤ a ∧ a < 2 * pF p → pH p a = false → ¬ zje p a → ∀ m, (∀ x i, ¬ (x = 113 ∧ i = 6) → x ≠ 114 → x ≠ 117 → x ≠ 130 → x ≠ 131 → x ≠ 132 → m x i = μ x i) → zMn' m (psH p (zon (pH p) a)) → zHM m (min (k + 1) 10) (zpush k Q p) → K (zhm (zon (pH p) a)) m) : z_ci m_X12_hinge [(2, 113), (0, a)] μ (d + 8) K := by
  have sk := zV_sk hv
  have G : zGm μ (pF p) (pa p) (pe p) (pq p) := zMK_G hc.1
  have F0 := sk.1
  refine V_X12_hinge (e12_isEdge ⟨by rw [G.2.1]; omega, by rw [G.2.1]; omega⟩ (fun q => ?_) (fun q => ?_))
  · rw [G.2.1] at q
    exact zy0 (h1 q)
  · rw [G.2.1] at q
    obtain ⟨w1, w2, w3⟩ := zV_e hv q
    obtain ⟨s1, s2, s3, s4, s5, s6⟩ := sk.2.1 _ w1.1 w1.2
    refine zy1 (e12_isHinge (zRwM_H hc.2) (by omega) (fun hz => zy1' (h2 q hz)) (fun hz => zy0' ?_))
    refine e12_first G w3 w1.1 q (e12_second G w3 w1 q ?_)
    refine e12_areJoined sk G (zRwM_H hc.2) (by omega) (by omega) (fun m hm hj => zy1' (h3 q hz hj m hm.1)) (fun m hm hj => zy0' ?_)
    have r0 : zRwM m 114 0 p := zRwM_fr hc.2 hv.1 (fun i _ _ => hm.1 114 i (by decide) (by decide) (by decide))
    refine e12_keepsPast (zHM_fr hh (hm.1 113 6 (by decide) (by decide) (by decide)) (fun i _ => hm.1 117 i (by decide) (by decide) (by decide))) r0 hv.1 (fun m2 f2 h2' => ⟨⟨by omega, by omega⟩, by omega, ?_⟩)
    have r2 : zRwM m2 114 0 p := zRwM_fr r0 hv.1 (fun i _ _ => f2 114 i (by omega) (by decide))
    have r3 := zRwM_set (H := zon (pH p) a) (x := 1) r2 hv.1 (by omega : 0 ≤ a ∧ a < 60) (by rw [zon_e]; rfl) (fun e he => zon_ne he)
    have fr : ∀ x i, ¬ (x = 113 ∧ i = 6) → x ≠ 114 → x ≠ 117 → x ≠ 130 → x ≠ 131 → x ≠ 132 → z_st m2 114 (23 + a) 1 x i = μ x i := fun x i c1 c2 c3 c4 c5 c6 => by
      rw [z_st_ne c2, f2 x i c1 c3, hm.1 x i c4 c5 c6]
    have V' := zV_on hv q hj
    have M' : zMK (z_st m2 114 (23 + a) 1) (pS p) (pn p) := zMK_fr hc.1 (fun x i w => by
      by_cases x4 : x = 114
      · rw [z_st_ni (by omega), f2 x i (by omega) (by omega), hm.1 x i (by omega) (by omega) (by omega)]
      · exact fr x i (by omega) x4 (by omega) (by omega) (by omega) (by omega))
    refine e12_hinges (F := pF p) F0 (by rw [fr 113 22 (by omega) (by omega) (by omega) (by omega) (by omega) (by omega)]; exact G.2.1) (zRwM_H r3) ?_
    have := zhm_eq V'
    rw [← (this : zhm (zon (pH p) a) = zHn (pF p) (zon (pH p) a))]
    exact h4 q hz hj _ fr ⟨M', r3⟩ (zHM_fr h2' (z_st_ne (by decide)) (fun i _ => z_st_ne (by decide)))
theorem e12_cut (hv : zV p) (hc : zMn' μ p) (hh : zHM μ k Q) (h1 : ¬ (0 ≤ a ∧ a < 2 * pF p) → K (-1) μ) (h2 : 0 ≤ a ∧ a < 2 * pF p → pH p a = false → K (-2) μ) (h4 : 0 ≤ a ∧ a < 2 * pF p → pH p a = true → ∀ m, (∀ x i, ¬ (x = 113 ∧ i = 6) → x ≠ 114 → x ≠ 117 → m x i = μ x i) → zMn' m (psH p (zof (pH p) a)) → zHM m (min (k + 1) 10) (zpush k Q p) → K (zhm (zof (pH p) a)) m) : z_ci m_X12_cut [(2, 113), (0, a)] μ (d + 8) K := by
  have sk := zV_sk hv
  have G : zGm μ (pF p) (pa p) (pe p) (pq p) := zMK_G hc.1
  have F0 := sk.1
  refine V_X12_cut (e12_isEdge ⟨by rw [G.2.1]; omega, by rw [G.2.1]; omega⟩ (fun q => ?_) (fun q => ?_))
  · rw [G.2.1] at q
    exact zy0 (h1 q)
  · rw [G.2.1] at q
    obtain ⟨w1, w2, w3⟩ := zV_e hv q
    refine zy1 (e12_isHinge (zRwM_H hc.2) (by omega) (fun hz => zy1 ?_) (fun hz => zy0 (h2 q hz)))
    refine e12_keepsPast hh hc.2 hv.1 (fun m2 f2 h2' => ⟨⟨by omega, by omega⟩, by omega, ?_⟩)
    have r2 : zRwM m2 114 0 p := zRwM_fr hc.2 hv.1 (fun i _ _ => f2 114 i (by omega) (by decide))
    have r3 := zRwM_set (H := zof (pH p) a) (x := 0) r2 hv.1 (by omega : 0 ≤ a ∧ a < 60) (by rw [zof_e]; rfl) (fun e he => zof_ne he)
    have fr : ∀ x i, ¬ (x = 113 ∧ i = 6) → x ≠ 114 → x ≠ 117 → z_st m2 114 (23 + a) 0 x i = μ x i := fun x i c1 c2 c3 => by
      rw [z_st_ne c2, f2 x i c1 c3]
    have M' : zMK (z_st m2 114 (23 + a) 0) (pS p) (pn p) := zMK_fr hc.1 (fun x i w => by
      by_cases x4 : x = 114
      · rw [z_st_ni (by omega), f2 x i (by omega) (by omega)]
      · exact fr x i (by omega) x4 (by omega))
    refine e12_hinges (F := pF p) F0 (by rw [fr 113 22 (by omega) (by omega) (by omega)]; exact G.2.1) (zRwM_H r3) ?_
    have := zhm_eq (p := psH p (zof (pH p) a)) (zV_of hv)
    rw [← (this : zhm (zof (pH p) a) = zHn (pF p) (zof (pH p) a))]
    exact h4 q hz _ fr ⟨M', r3⟩ (zHM_fr h2' (z_st_ne (by decide)) (fun i _ => z_st_ne (by decide)))
theorem e12_root (hv : zV p) (hc : zMn' μ p) (hh : zHM μ k Q) (h1 : ¬ (0 ≤ a ∧ a < pF p) → K (-1) μ) (h2 : 0 ≤ a ∧ a < pF p → pr p = a → K (-2) μ) (h4 : 0 ≤ a ∧ a < pF p → ¬ pr p = a → ∀ m, (∀ x i, ¬ (x = 113 ∧ i = 6) → x ≠ 114 → x ≠ 117 → m x i = μ x i) → zMn' m (psr p a) → zHM m (min (k + 1) 10) (zpush k Q p) → K (pr p) m) : z_ci m_X12_root [(2, 113), (0, a)] μ (d + 8) K := by
  have sk := zV_sk hv
  have G : zGm μ (pF p) (pa p) (pe p) (pq p) := zMK_G hc.1
  have F0 := sk.1
  refine V_X12_root (e12_isFace ⟨by rw [G.1]; omega, by rw [G.1]; omega⟩ (fun q => ?_) (fun q => ?_))
  · rw [G.1] at q
    exact zy0 (h1 q)
  · rw [G.1] at q
    refine zy1 ?_
    rw [zRwM_r hc.2]
    refine ⟨fun r => ?_, fun r => h2 q r⟩
    refine e12_keepsPast hh hc.2 hv.1 (fun m2 f2 h2' => ?_)
    have r2 : zRwM m2 114 0 p := zRwM_fr hc.2 hv.1 (fun i _ _ => f2 114 i (by omega) (by decide))
    have fr : ∀ x i, ¬ (x = 113 ∧ i = 6) → x ≠ 114 → x ≠ 117 → z_st m2 114 22 a x i = μ x i := fun x i c1 c2 c3 => by
      rw [z_st_ne c2, f2 x i c1 c3]
    have M' : zMK (z_st m2 114 22 a) (pS p) (pn p) := zMK_fr hc.1 (fun x i w => by
      by_cases x4 : x = 114
      · rw [z_st_ni (by omega), f2 x i (by omega) (by omega)]
      · exact fr x i (by omega) x4 (by omega))
    refine h4 q r _ fr ⟨M', ?_⟩ (zHM_fr h2' (z_st_ne (by decide)) (fun i _ => z_st_ne (by decide)))
    obtain ⟨a1, a2, a3, a4, a5⟩ := r2
    have hn := hv.1
    exact ⟨by rw [z_st_ni (by omega)]; exact a1, fun i i0 i1 => by have i1' : i < 3 * pn p := i1; rw [z_st_ni (by omega)]; exact a2 i i0 i1, z_st_eq, fun e e0 e1 => by rw [z_st_ni (by omega)]; exact a4 e e0 e1, fun e e0 e1 => by rw [z_st_ni (by omega)]; exact a5 e e0 e1⟩
theorem e12_weigh (hv : zV p) (hc : zMn' μ p) (hh : zHM μ k Q) (h1 : ¬ ((0 ≤ a ∧ a < 2 * pF p) ∧ 0 ≤ b ∧ b ≤ 9) → K (-1) μ) (h2 : (0 ≤ a ∧ a < 2 * pF p) ∧ 0 ≤ b ∧ b ≤ 9 → pW p a = b → K (-2) μ) (h4 : (0 ≤ a ∧ a < 2 * pF p) ∧ 0 ≤ b ∧ b ≤ 9 → ¬ pW p a = b → ∀ m, (∀ x i, ¬ (x = 113 ∧ i = 6) → x ≠ 114 → x ≠ 117 → m x i = μ x i) → zMn' m (psW p (zup (pW p) a b)) → zHM m (min (k + 1) 10) (zpush k Q p) → K (pW p a) m) : z_ci m_X12_weigh [(2, 113), (0, a), (0, b)] μ (d + 8) K := by
  have sk := zV_sk hv
  have G : zGm μ (pF p) (pa p) (pe p) (pq p) := zMK_G hc.1
  have F0 := sk.1
  refine V_X12_weigh (e12_isEdge ⟨by rw [G.2.1]; omega, by rw [G.2.1]; omega⟩ (fun q => ?_) (fun q => ?_))
  · rw [G.2.1] at q
    exact zy0' (h1 (fun w => q w.1))
  · rw [G.2.1] at q
    obtain ⟨w1, w2, w3⟩ := zV_e hv q
    refine zy1' (e_in (fun r => zy0 (h1 (fun w => r w.2))) (fun r => zy1 ⟨⟨by omega, by omega⟩, by omega, ?_⟩))
    rw [zRwM_W hc.2 q.1 (by omega)]
    refine ⟨fun t => ?_, fun t => h2 ⟨q, r⟩ t⟩
    refine e12_keepsPast hh hc.2 hv.1 (fun m2 f2 h2' => ⟨⟨by omega, by omega⟩, by omega, ?_⟩)
    have r2 : zRwM m2 114 0 p := zRwM_fr hc.2 hv.1 (fun i _ _ => f2 114 i (by omega) (by decide))
    have fr : ∀ x i, ¬ (x = 113 ∧ i = 6) → x ≠ 114 → x ≠ 117 → z_st m2 114 (83 + a) b x i = μ x i := fun x i c1 c2 c3 => by
      rw [z_st_ne c2, f2 x i c1 c3]
    have M' : zMK (z_st m2 114 (83 + a) b) (pS p) (pn p) := zMK_fr hc.1 (fun x i w => by
      by_cases x4 : x = 114
      · rw [z_st_ni (by omega), f2 x i (by omega) (by omega)]
      · exact fr x i (by omega) x4 (by omega))
    refine h4 ⟨q, r⟩ t _ fr ⟨M', ?_⟩ (zHM_fr h2' (z_st_ne (by decide)) (fun i _ => z_st_ne (by decide)))
    obtain ⟨a1, a2, a3, a4, a5⟩ := r2
    have hn := hv.1
    refine ⟨by rw [z_st_ni (by omega)]; exact a1, fun i i0 i1 => by have i1' : i < 3 * pn p := i1; rw [z_st_ni (by omega)]; exact a2 i i0 i1, by rw [z_st_ni (by omega)]; exact a3, fun e e0 e1 => by rw [z_st_ni (by omega)]; exact a4 e e0 e1, fun e e0 e1 => ?_⟩
    show _ = zup (pW p) a b e
    unfold zup
    by_cases g : e = a
    · rw [if_pos g, g, show 0 + (83 + a) = 83 + a by omega, z_st_eq]
    · rw [if_neg g, z_st_ni (by omega)]
      exact a5 e e0 e1
end AD

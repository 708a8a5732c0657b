/-! tree, undo -/
def zTl (p : zP) (a : Int) : List Int := if a = 0 then zBF (pa p) (pe p) zAll (pr p) else zDt p
section TT
variable {a b k v r f : Int} {p : zP} {Q : Int → zP} {L : List Int} {μ μ0 : z_Mem} {d : Nat} {K : Int → z_Mem → Prop} {Kn : z_Mem → Prop}
theorem zTl_tr (hv : zV p) (hr : 0 ≤ pr p ∧ pr p < pF p) : zTr (pF p) (pa p) (pe p) zAll (pr p) (zTl p a) := by
  have sk := zV_sk hv
  unfold zTl
  split
  · exact zBF_tr sk hr
  · exact (zdF_ok sk hr 30 (pr p) [] trivial zin_r (by have : pF p ≤ 30 := sk.1.2; show pF p ≤ ((30 : Nat) : Int) + ((0 : Nat) : Int); omega)).1.1
theorem e_tree (hv : zV p) (hc : zCn' μ p) (hh : zHC μ k Q) (h1 : ¬ ((0 ≤ a ∧ a ≤ 1) ∧ ¬ pF p = 0) → K (-1) μ) (h4 : (0 ≤ a ∧ a ≤ 1) ∧ ¬ pF p = 0 → ∀ m, zfA μ m → m 29 0 = 0 → m 39 0 = 0 → m 44 0 = 0 → zCn' m (psH p (zHl (pe p) (zTl p a))) → zHC m (min (k + 1) 10) (zpush k Q p) → K (zmx (pF p).toNat (zdp (pa p) (zTl p a))) m) : z_ci m_X11_tree [(2, 1), (0, a)] μ (d + 8) K := by
  have sk := zV_sk hv
  have G : zGc μ (pF p) (pa p) (pe p) (pq p) := zCK_G hc.1
  refine V_X11_tree ⟨fun q => h1 (fun w => by omega), fun q => ⟨fun q3 => h1 (fun w => by omega), fun q4 => ?_⟩⟩
  rw [G.1]
  refine ⟨fun q5 => ?_, fun q6 => h1 (fun w => w.2 q6)⟩
  have hr : 0 ≤ pr p ∧ pr p < pF p := by
    have := hv.2.2.2.2.2.1
    omega
  refine e_remember hh hc.2.1 (fun m2 f2 h2' => ?_)
  have C2 : zCK m2 (pS p) (pn p) := zCK_fr hc.1 (fun o i _ _ => f2 o i (by omega))
  have J2 : zRwC m2 21 p := zRwC_fr hc.2.1 (fun x i _ => f2 x i (by omega))
  have fin : ∀ x m, x = zmx (pF p).toNat (zdp (pa p) (zTl p a)) → zTC m2 m p (pr p) (zTl p a) → z_cn m_X11_settle [(2, 1)] m (d + 7) (fun m' => K x m') := fun x m hx hm => by
    rw [hx]
    refine e_act (μ0 := μ) (p' := psH p (zHl (pe p) (zTl p a))) (zV_L hv (zTl_tr hv hr)) (zCK_fr C2 (fun o i _ _ => hm.1 o i (by omega) (by omega))) hm.2.1 (fun x i w => ?_) (k' := min (k + 1) 10) (Q' := zpush k Q p) (zHC_fr h2' (fun x i _ _ => hm.1 x i (by omega) (by omega))) (fun m4 f4 c1 c2 c3 c4 c5 => h4 ⟨⟨q, q4⟩, q5⟩ m4 f4 c1 c2 c3 c4 c5)
    rw [hm.1 x i (by omega) (by omega)]
    exact f2 x i (by omega)
  refine ⟨fun q1 => e_byDepth hv hr C2 J2 (fun m hm => ?_), fun q1 => e_byBreadth hv hr C2 J2 (fun m hm => ?_)⟩
  · have e : zTl p a = zDt p := if_neg q1
    exact fin _ m (by rw [e]) (by rw [e]; exact hm)
  · have e : zTl p a = zBF (pa p) (pe p) zAll (pr p) := if_pos q1
    exact fin _ m (by rw [e]) (by rw [e]; exact hm)
theorem e12_tree (hv : zV p) (hc : zMn' μ p) (hh : zHM μ k Q) (h1 : ¬ ((0 ≤ a ∧ a ≤ 1) ∧ ¬ pF p = 0) → K (-1) μ) (h4 : (0 ≤ a ∧ a ≤ 1) ∧ ¬ pF p = 0 → ∀ m, (∀ x i, ¬ (x = 113 ∧ i = 6) → x ≠ 114 → x ≠ 117 → (x < 131 ∨ 134 < x) → m x i = μ x i) → zMn' m (psH p (zHl (pe p) (zTl p a))) → zHM m (min (k + 1) 10) (zpush k Q p) → K (zmx (pF p).toNat (zdp (pa p) (zTl p a))) m) : z_ci m_X12_tree [(2, 113), (0, a)] μ (d + 40) K := by
  have sk := zV_sk hv
  have F0 : 0 ≤ pF p ∧ pF p ≤ 30 := sk.1
  have G : zGm μ (pF p) (pa p) (pe p) (pq p) := zMK_G hc.1
  refine V_X12_tree ?_
  rw [G.1]
  refine ⟨fun q => h1 (fun w => w.2 q), fun q5 => e_in (fun r => zy0 (h1 (fun w => r w.1))) (fun r => zy1 ?_)⟩
  have hr : 0 ≤ pr p ∧ pr p < pF p := by
    have := hv.2.2.2.2.2.1
    omega
  refine e12_keepsPast hh hc.2 hv.1 (fun m2 f2 h2' => ?_)
  refine e12_cutsAll hv (by rw [f2 113 22 (by omega) (by omega)]; exact G.2.1) (zRwM_fr hc.2 hv.1 (fun i _ _ => f2 114 i (by omega) (by omega))) (fun m3 f3 r3 => ?_)
  have K3 : zMK m3 (pS p) (pn p) := zMK_H (p := p) (H := fun _ => false) hv.1 hv.2.1 hc.1 (fun o i w => by rw [f3 o i (by omega), f2 o i (by omega) (by omega)]) r3
  have fin : ∀ m, zTM m3 m p (pr p) (zTl p a) → z_ri m_X12_tree 90 [some (2, 113), none, some (0, 0), some (0, 0)] m (d + 40) K := fun m hm => by
    have KM := zTM_K hv K3 hm
    have GM : zGm m (pF p) (pa p) (pe p) (pq p) := zMK_G KM
    have key : ∀ j, 0 ≤ j → j ≤ pF p → z_ri m_X12_tree 90 [some (2, 113), none, some (0, zmx j.toNat (zdp (pa p) (zTl p a))), some (0, j)] m (d + 40) K := by
      refine z_up (fun j j0 j1 ih => V_X12_tree_90 ?_)
      rw [GM.1]
      refine ⟨fun q => ?_, fun q => ⟨by omega, ⟨by omega, by omega⟩, ?_⟩⟩
      · obtain rfl : j = pF p := by omega
        refine h4 ⟨r, q5⟩ m (fun x i c1 c2 c3 c4 => ?_) ⟨KM, hm.2.1⟩ (zHM_fr h2' ?_ (fun i _ => ?_))
        · rw [hm.1 x i c2 (by omega) (by omega) (by omega), f3 x i c2, f2 x i c1 c3]
        · rw [hm.1 113 6 (by omega) (by omega) (by omega) (by omega), f3 113 6 (by omega)]
        · rw [hm.1 117 i (by omega) (by omega) (by omega) (by omega), f3 117 i (by omega)]
      · have := ih q
        rw [show (j + 1).toNat = j.toNat + 1 by omega] at this
        have e : zmx (j.toNat + 1) (zdp (pa p) (zTl p a)) = max (zmx j.toNat (zdp (pa p) (zTl p a))) (m 133 j) := by
          show max _ (zdp (pa p) (zTl p a) ((j.toNat : Nat) : Int)) = _
          rw [show ((j.toNat : Nat) : Int) = j by omega, (hm.2.2 j j0 q).1]
        rw [e] at this
        exact this
    exact key 0 (by omega) (by omega)
  have key : ∀ j, 0 ≤ j → j ≤ pF p → ∀ m : z_Mem, (∀ x i, x ≠ 133 → x ≠ 134 → m x i = m3 x i) → (∀ f, 0 ≤ f → f < j → m 133 f = 0 ∧ m 134 f = 0) → z_ri m_X12_tree 29 [some (2, 113), some (0, a), some (0, j), none] m (d + 40) K := by
    refine z_up (fun j j0 j1 ih m hf hm => V_X12_tree_29 ?_)
    rw [hf 113 21 (by decide) (by decide), (show m3 113 21 = pF p from K3.1.2.1)]
    refine ⟨fun q => ?_, fun q => ?_⟩
    · have e22 : m 114 22 = pr p := by rw [hf 114 22 (by decide) (by decide)]; exact zRwM_r (p := psH p (fun _ => false)) r3
      rw [e22]
      have base : ∀ m' : z_Mem, (∀ x i, x ≠ 131 → ¬ (x = 134 ∧ i = pr p) → m' x i = m x i) → m' 134 (pr p) = 1 → zTM m3 m' p (pr p) [] := fun m' hx h1' => by
        refine ⟨fun x i c1 c2 c3 c4 => ?_, zRwM_fr r3 hv.1 (fun i _ _ => ?_), fun f f0 f1 => ⟨?_, ?_⟩⟩
        · rw [hx x i c2 (by omega)]
          exact hf x i c3 c4
        · rw [hx 114 i (by decide) (by omega)]
          exact hf 114 i (by decide) (by decide)
        · rw [hx 133 f (by decide) (by omega)]
          exact (hm f f0 (by omega)).1
        · show _ = zi (decide (f = pr p))
          by_cases w : f = pr p
          · rw [w, h1', decide_eq_true rfl]
            rfl
          · rw [hx 134 f (by decide) (by omega), decide_eq_false w]
            exact (hm f f0 (by omega)).2
      refine ⟨fun q2 => ?_, fun q3 => ?_⟩
      · have e : zTl p a = zDt p := if_neg q2
        refine e12_deep (d := d + 9) hv hr K3 30 (pr p) [] m _ trivial zin_r (by show pF p ≤ ((30 : Nat) : Int) + ((0 : Nat) : Int); omega) (base _ (fun x i c1 c2 => z_st_nx c2) z_st_eq) (fun m' hm' => fin m' (by rw [e]; exact hm'))
      · have e : zTl p a = zBF (pa p) (pe p) zAll (pr p) := if_pos q3
        exact e12_wide hv hr K3 (base _ (fun x i c1 c2 => by rw [z_st_ne c1, z_st_nx c2]) (by rw [z_st_ne (by decide), z_st_eq])) (fun m' hm' => fin m' (by rw [e]; exact hm'))
    · refine ⟨by omega, by omega, ⟨by omega, by omega⟩, ih (by have q' : j < pF p := q; omega) _ (fun x i c1 c2 => by rw [z_st_ne c1, z_st_ne c2]; exact hf x i c1 c2) (fun f f0 f1 => ?_)⟩
      by_cases w : f = j
      · rw [w, z_st_eq, z_st_ne (by decide), z_st_eq]
        exact ⟨rfl, rfl⟩
      · rw [z_st_ni w, z_st_ne (by decide), z_st_ne (by decide), z_st_ni w]
        exact hm f f0 (by omega)
  exact key 0 (by omega) (by omega) m3 (fun _ _ _ _ => rfl) (fun f f0 f1 => by omega)
theorem zpn_eq {p q : zP} (h1 : pn q = pn p) (h2 : pS q = pS p) : pF q = pF p ∧ pa q = pa p ∧ pe q = pe p ∧ pq q = pq p := by
  have e1 : q.1 = p.1 := h1
  have e2 : q.2.1 = p.2.1 := h2
  refine ⟨?_, ?_, ?_, ?_⟩
  · show zFs q.2.1 q.1 = zFs p.2.1 p.1
    rw [e1, e2]
  · show zac q.2.1 q.1 = zac p.2.1 p.1
    rw [e1, e2]
  · show zeD q.2.1 q.1 = zeD p.2.1 p.1
    rw [e1, e2]
  · show zeS q.2.1 q.1 = zeS p.2.1 p.1
    rw [e1, e2]
/-- of the last acts: all of the same cubes -/
def zQv (p : zP) (k : Int) (Q : Int → zP) : Prop := ∀ i, 0 ≤ i → i < k → zV (Q i) ∧ pn (Q i) = pn p ∧ pS (Q i) = pS p
theorem zQv_push (hk : 0 ≤ k ∧ k ≤ 10) (hv : zV p) (h : zQv p k Q) {p' : zP} (hn : pn p' = pn p) (hs : pS p' = pS p) : zQv p' (min (k + 1) 10) (zpush k Q p) := by
  intro i i0 i1
  unfold zpush
  rw [hn, hs]
  by_cases g : i = min k 9
  · rw [if_pos g]
    exact ⟨hv, rfl, rfl⟩
  · rw [if_neg g]
    by_cases g2 : k = 10
    · rw [if_pos g2]
      exact h (i + 1) (by omega) (by omega)
    · rw [if_neg g2]
      exact h i i0 (by omega)
theorem e_undo (hc : zCn' μ p) (hq : zQv p k Q) (hh : zHC μ k Q) (h1 : k = 0 → K (-1) μ) (h4 : 0 < k → ∀ m, zfA μ m → m 29 0 = 0 → m 39 0 = 0 → m 44 0 = 0 → zCn' m (Q (k - 1)) → zHC m (k - 1) Q → K (k - 1) m) : z_ci m_X11_undo [(2, 1)] μ (d + 8) K := by
  refine V_X11_undo (e_bringBack hh (fun q => zy0 (h1 q)) (fun m f2 q h2 j2 => zy1 ?_))
  obtain ⟨v1, v2, v3⟩ := hq (k - 1) (by omega) (by omega)
  have C2 : zCK m (pS (Q (k - 1))) (pn (Q (k - 1))) := by
    rw [v2, v3]
    exact zCK_fr hc.1 (fun o i _ _ => f2 o i (by omega) (by omega) (by omega))
  refine e_act (μ0 := μ) (p' := Q (k - 1)) v1 C2 j2 (fun x i w => f2 x i (by omega) (by omega) (by omega)) h2 (fun m4 f4 c1 c2 c3 c4 c5 => ?_)
  rw [c5.1]
  exact h4 q m4 f4 c1 c2 c3 c4 c5
theorem e12_undo (hc : zMn' μ p) (hq : zQv p k Q) (hh : zHM μ k Q) (h1 : k = 0 → K (-1) μ) (h4 : 0 < k → ∀ m, (∀ x i, ¬ (x = 113 ∧ i = 6) → x ≠ 114 → m x i = μ x i) → zMn' m (Q (k - 1)) → zHM m (k - 1) Q → K (k - 1) m) : z_ci m_X12_undo [(2, 113)] μ (d + 8) K := by
  obtain ⟨a1, a2, a3⟩ := id hh
  refine V_X12_undo ?_
  rw [a1]
  refine ⟨fun q => ?_, h1⟩
  obtain ⟨v1, v2, v3⟩ := hq (k - 1) (by omega) (by omega)
  obtain ⟨b1, b2⟩ := a3 (k - 1) (by omega) (by omega)
  refine ⟨⟨by omega, by omega⟩, ?_⟩
  rw [z_st_eq]
  refine ⟨⟨by omega, by omega⟩, e_moves zk117 zk114 (by decide) (by omega) (by omega) (by decide) ?_⟩
  have e6 : z_cpy (z_st μ 113 6 (k - 1)) 117 (143 * (k - 1)) 114 0 143 113 6 = k - 1 := by rw [z_cpy_ne (by decide), z_st_eq]
  rw [e6]
  have rr : zRwM (z_cpy (z_st μ 113 6 (k - 1)) 117 (143 * (k - 1)) 114 0 143) 114 0 (Q (k - 1)) := zRwM_cpy (m := z_st μ 113 6 (k - 1)) (zRwM_fr b2 b1 (fun i _ _ => z_st_ne (by decide))) b1
  refine h4 (by omega) _ (fun x i c1 c2 => by rw [z_cpy_ne c2, z_st_nx c1]) ⟨?_, rr⟩ ⟨e6, by omega, fun i i0 i1 => ?_⟩
  · refine zMK_H (p := Q (k - 1)) (H := pH (Q (k - 1))) v1.1 v1.2.1 ?_ (fun o i w => by rw [z_cpy_ne (by omega), z_st_nx (by omega)]) rr
    rw [v2, v3]
    exact hc.1
  · obtain ⟨c1, c2⟩ := a3 i i0 (by omega)
    exact ⟨c1, zRwM_fr c2 c1 (fun j _ _ => by rw [z_cpy_ne (by decide), z_st_ne (by decide)])⟩
end TT

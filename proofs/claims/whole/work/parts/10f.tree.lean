/-! trees: what is common to both kinds -/
def zHl (ed : Int → Int) : List Int → Int → Bool
  | [] => fun _ => false
  | k :: L => zon (zHl ed L) (ed k)
def zdp (ac : Int → Int) : List Int → Int → Int
  | [], _ => 0
  | k :: L, f => if f = ac k / 4 then zdp ac L (k / 4) + 1 else zdp ac L f
def zmx : Nat → (Int → Int) → Int
  | 0, _ => 0
  | n + 1, g => max (zmx n g) (g n)
abbrev zAll : Int → Bool := fun _ => true
section TR
variable {a b k v r f : Int} {p : zP} {Q : Int → zP} {L : List Int} {ac ed es : Int → Int} {F : Int} {μ μ0 : z_Mem} {d : Nat} {K : Int → z_Mem → Prop} {Kn : z_Mem → Prop}
theorem zmx_n {g : Int → Int} (n : Nat) : 0 ≤ zmx n g := by
  induction n with
  | zero => exact Int.le_refl _
  | succ n ih =>
    show 0 ≤ max _ _
    omega
theorem zHl_in (sk : zSK F ac ed es) : ∀ {L : List Int}, zTr F ac ed zAll r L → ∀ j, 0 ≤ j → j < 4 * F → zHl ed L (ed j) = true → zin ac r L (j / 4) = true ∧ zin ac r L (ac j / 4) = true
  | [], _, j, _, _, h => by cases h
  | k :: L, ht, j, j0, j1, h => by
    obtain ⟨⟨h1, h2, h3, h4⟩, h5⟩ := ht
    have m : ∀ x, zin ac r L x = true → zin ac r (k :: L) x = true := fun x hx => by
      show (decide (x = ac k / 4) || zin ac r L x) = true
      rw [hx]
      simp
    have mk : zin ac r (k :: L) (ac k / 4) = true := by
      show (decide (ac k / 4 = ac k / 4) || zin ac r L (ac k / 4)) = true
      rw [decide_eq_true rfl]
      rfl
    by_cases q : ed j = ed k
    · rcases zsame sk ⟨j0, j1⟩ h1 q with w | w
      · rw [w]
        exact ⟨m _ h3, mk⟩
      · rw [w, (sk.2.1 k h1.1 h1.2).2.1]
        exact ⟨mk, m _ h3⟩
    · have h' : zon (zHl ed L) (ed k) (ed j) = true := h
      rw [zon_ne q] at h'
      obtain ⟨a1, a2⟩ := zHl_in sk h5 j j0 j1 h'
      exact ⟨m _ a1, m _ a2⟩
theorem zHl_J (sk : zSK F ac ed es) (ht : zTr F ac ed zAll r L) {x y : Int} (hx : zin ac r L x = true) (h : zJ F ac ed (zHl ed L) x y) : zin ac r L y = true :=
  h (fun z => zin ac r L z = true) hx (fun k k0 k1 hh _ => (zHl_in sk ht k k0 k1 hh).2)
theorem zV_L (hv : zV p) : ∀ {L : List Int}, zTr (pF p) (pa p) (pe p) zAll r L → zV (psH p (zHl (pe p) L))
  | [], _ => zV_0 hv
  | k :: L, ht => by
    have sk := zV_sk hv
    obtain ⟨⟨h1, h2, h3, h4⟩, h5⟩ := ht
    have ih := zV_L hv h5
    obtain ⟨s1, s2, s3, s4, s5, s6⟩ := sk.2.1 k h1.1 h1.2
    refine zV_on (p := psH p (zHl (pe p) L)) (a := pe p k) ih s4 (fun hj => ?_)
    have hj' : zJ (pF p) (pa p) (pe p) (zHl (pe p) L) (pq p (pe p k) / 4) (pa p (pq p (pe p k)) / 4) := hj
    have e6 : pq p (pe p k) = min k (pa p k) := s6
    rw [e6] at hj'
    rcases (by omega : min k (pa p k) = k ∨ min k (pa p k) = pa p k) with w | w
    · rw [w] at hj'
      rw [zHl_J sk h5 h3 hj'] at h4
      cases h4
    · rw [w, s2] at hj'
      rw [zHl_J sk h5 h3 (zJ_sy (es := pq p) sk hj')] at h4
      cases h4
theorem zdp_b : ∀ {L : List Int} {f : Int}, 0 ≤ zdp ac L f ∧ zdp ac L f ≤ L.length
  | [], f => ⟨Int.le_refl _, Int.le_refl _⟩
  | k :: L, f => by
    show 0 ≤ (if f = ac k / 4 then zdp ac L (k / 4) + 1 else zdp ac L f) ∧ (if f = ac k / 4 then zdp ac L (k / 4) + 1 else zdp ac L f) ≤ _
    rw [List.length_cons]
    have h1 := zdp_b (L := L) (f := k / 4)
    have h2 := zdp_b (L := L) (f := f)
    split <;> omega
theorem zdp_0 : ∀ {L : List Int} {f : Int}, zin ac r L f = false → zdp ac L f = 0
  | [], f, _ => rfl
  | k :: L, f, h => by
    have h' : (decide (f = ac k / 4) || zin ac r L f) = false := h
    rw [Bool.or_eq_false_iff] at h'
    have ne : ¬ f = ac k / 4 := of_decide_eq_false h'.1
    show (if f = ac k / 4 then _ else zdp ac L f) = 0
    rw [if_neg ne]
    exact zdp_0 h'.2
/-- the class's tree, as far as it has grown -/
def zTC (μ m : z_Mem) (p : zP) (r : Int) (L : List Int) : Prop := (∀ x i, ¬ (x = 21 ∧ i = 0) → (x < 17 ∨ 20 < x) → m x i = μ x i) ∧ zRwC m 21 (psH p (zHl (pe p) L)) ∧ ∀ f, 0 ≤ f → f < pF p → m 19 f = if zin (pa p) r L f = true then zdp (pa p) L f else -1
theorem e_growBehind (hv : zV p) (hr : 0 ≤ r ∧ r < pF p) (hc : zCK μ (pS p) (pn p)) (ht : zTr (pF p) (pa p) (pe p) zAll r L) (hm : zTC μ μ0 p r L) (hk : 0 ≤ k ∧ k < 4 * pF p) (hi : zin (pa p) r L (k / 4) = true) (hb : 0 ≤ b ∧ b ≤ L.length + 1) (h1 : zin (pa p) r L (pa p k / 4) = true → K b μ0) (h2 : zin (pa p) r L (pa p k / 4) = false → ∀ m, zTC μ m p r (k :: L) → m 17 = zs_up (μ0 17) b (pa p k / 4) → m 20 = μ0 20 → K (b + 1) m) : z_ci m_X9_growBehind [(2, 6), (0, k), (0, b), (2, 21)] μ0 (d + 1) K := by
  have sk := zV_sk hv
  have F0 : pF p ≤ 30 := sk.1.2
  obtain ⟨s1, s2, s3, s4, s5, s6⟩ := sk.2.1 k hk.1 hk.2
  have C : zCK μ0 (pS p) (pn p) := zCK_fr hc (fun o i _ _ => hm.1 o i (by omega) (by omega))
  have G : zGc μ0 (pF p) (pa p) (pe p) (pq p) := zCK_G C
  obtain ⟨g1, g2⟩ := G.2.2.1 k hk.1 hk.2
  have ln := zTr_le sk hr ht
  refine V_X9_growBehind ?_
  rw [g1, g2, hm.2.2 _ (by omega) (by omega)]
  have db := zdp_b (ac := pa p) (L := L) (f := pa p k / 4)
  cases hz : zin (pa p) r L (pa p k / 4) with
  | true =>
    rw [if_pos rfl]
    exact ⟨by omega, by omega, fun _ => h1 hz, fun q => by omega⟩
  | false =>
    rw [if_neg (by decide)]
    refine ⟨by omega, by omega, fun q => absurd rfl q, fun _ => ⟨fun q => ⟨by omega, ?_⟩, fun q => ?_⟩⟩
    · refine e_setHinge (p := psH p (zHl (pe p) L)) hm.2.1 (by omega) (fun r3 => ?_)
      have w11 : z_st μ0 21 0 (zor (μ0 21 0) (pe p k)) 11 k = pa p k := by rw [z_st_ne (by decide)]; exact g1
      have w19 : z_st μ0 21 0 (zor (μ0 21 0) (pe p k)) 19 (k / 4) = zdp (pa p) L (k / 4) := by
        rw [z_st_ne (by decide), hm.2.2 _ (by omega) (by omega), if_pos hi]
      have dk := zdp_b (ac := pa p) (L := L) (f := k / 4)
      rw [w19]
      refine ⟨by omega, ⟨by omega, by omega⟩, by omega, by omega, ⟨by omega, by omega⟩, h2 hz _ ⟨fun x i a c => ?_, ?_, fun f f0 f1 => ?_⟩ ?_ ?_⟩
      · rw [z_st_ne (by omega), z_st_ne (by omega), z_st_nx a]
        exact hm.1 x i a c
      · exact zRwC_fr r3 (fun x i q => by rw [z_st_ne (by omega), z_st_ne (by omega)])
      · rw [z_st_ne (by decide)]
        show _ = if (decide (f = pa p k / 4) || zin (pa p) r L f) = true then (if f = pa p k / 4 then zdp (pa p) L (k / 4) + 1 else zdp (pa p) L f) else -1
        by_cases w : f = pa p k / 4
        · rw [w, z_st_eq, decide_eq_true rfl, if_pos (by rfl), if_pos rfl]
        · rw [z_st_ni w, z_st_ne (by decide), hm.2.2 f f0 f1, decide_eq_false w, if_neg w]
          rfl
      · rw [zs_up_st, zs_up_so (by decide), zs_up_so (by decide)]
      · rw [zs_up_so (by decide), zs_up_so (by decide), zs_up_so (by decide)]
    · have := zTr_lt sk hr ht (f := pa p k / 4) (by omega) hz
      omega
theorem e_startTree (hv : zV p) (hr : 0 ≤ pr p ∧ pr p < pF p) (hc : zCK μ (pS p) (pn p)) (hj : zRwC μ 21 p) (hk : ∀ m, zTC μ m p (pr p) [] → m 17 0 = pr p → (∀ f, 0 ≤ f → f < pF p → m 20 f = 0) → Kn m) : z_cn m_X9_startTree [(2, 6), (2, 21)] μ d Kn := by
  have sk := zV_sk hv
  have F0 : pF p ≤ 30 := sk.1.2
  have G : zGc μ (pF p) (pa p) (pe p) (pq p) := zCK_G hc
  have key : ∀ j, 0 ≤ j → j ≤ pF p → ∀ m : z_Mem, (∀ x i, ¬ (x = 21 ∧ i = 0) → (x < 17 ∨ 20 < x) → m x i = μ x i) → m 21 0 = 0 → (∀ f, 0 ≤ f → f < j → m 19 f = -1 ∧ m 20 f = 0) → z_rn m_X9_startTree 7 [some (2, 6), some (2, 21), some (0, j)] m d Kn := by
    refine z_up (fun j j0 j1 ih m hf h0 hm => V_X9_startTree_7 ?_)
    rw [hf 6 2 (by omega) (by omega), G.1]
    have e1 : m 21 1 = pr p := by rw [hf 21 1 (by omega) (by omega)]; exact hj.2.1
    refine ⟨fun q => ?_, fun q => ⟨by omega, by omega, ⟨by omega, by omega⟩, ih q _ (fun x i a b => ?_) ?_ (fun f f0 f1 => ?_)⟩⟩
    · rw [e1]
      refine ⟨by omega, hk _ ⟨fun x i a b => ?_, ⟨?_, ?_, fun e e0 e1 => ?_⟩, fun f f0 f1 => ?_⟩ ?_ (fun f f0 f1 => ?_)⟩
      · rw [z_st_ne (by omega), z_st_ne (by omega)]
        exact hf x i a b
      · rw [z_st_ne (by decide), z_st_ne (by decide), h0]
        exact ⟨⟨by decide, by decide⟩, fun e _ => zbt_0⟩
      · rw [z_st_ne (by decide), z_st_ne (by decide)]
        exact e1
      · rw [z_st_ne (by decide), z_st_ne (by decide), hf _ _ (by omega) (by omega)]
        exact hj.2.2 e e0 (by omega)
      · rw [z_st_ne (by decide)]
        show _ = if decide (f = pr p) = true then (0 : Int) else -1
        by_cases w : f = pr p
        · rw [w, z_st_eq, decide_eq_true rfl, if_pos rfl]
        · rw [z_st_ni w, decide_eq_false w, if_neg (by decide)]
          exact (hm f f0 (by omega)).1
      · rw [z_st_eq, z_st_ne (by decide)]
        exact e1
      · rw [z_st_ne (by decide), z_st_ne (by decide)]
        exact (hm f f0 (by omega)).2
    · rw [z_st_ne (by omega), z_st_ne (by omega)]
      exact hf x i a b
    · rw [z_st_ne (by decide), z_st_ne (by decide)]
      exact h0
    · by_cases w : f = j
      · rw [w, z_st_ne (by decide), z_st_eq, z_st_eq]
        exact ⟨rfl, rfl⟩
      · rw [z_st_ne (by decide), z_st_ni w, z_st_ni w, z_st_ne (by decide)]
        exact hm f f0 (by omega)
  exact V_X9_startTree (key 0 (by omega) (by omega) _ (fun x i a b => z_st_nx a) z_st_eq (fun f f0 f1 => by omega))
theorem e_greatest (hv : zV p) (hc : zCK μ (pS p) (pn p)) (hm : zTC μ μ0 p r L) (hk : K (zmx (pF p).toNat (zdp (pa p) L)) μ0) : z_ci m_X9_greatestDepth [(2, 6)] μ0 (d + 1) K := by
  have sk := zV_sk hv
  have F0 : 0 ≤ pF p ∧ pF p ≤ 30 := sk.1
  have G : zGc μ (pF p) (pa p) (pe p) (pq p) := zCK_G hc
  have key : ∀ j, 0 ≤ j → j ≤ pF p → z_ri m_X9_greatestDepth 4 [some (2, 6), some (0, zmx j.toNat (zdp (pa p) L)), some (0, j)] μ0 (d + 1) K := by
    refine z_up (fun j j0 j1 ih => V_X9_greatestDepth_4 ?_)
    rw [hm.1 6 2 (by omega) (by omega), G.1]
    refine ⟨fun q => ?_, fun q => ⟨by omega, ⟨by omega, by omega⟩, ?_⟩⟩
    · obtain rfl : j = pF p := by omega
      exact hk
    · have := ih q
      rw [show (j + 1).toNat = j.toNat + 1 by omega] at this
      have e : zmx (j.toNat + 1) (zdp (pa p) L) = max (zmx j.toNat (zdp (pa p) L)) (μ0 19 j) := by
        show max _ (zdp (pa p) L ((j.toNat : Nat) : Int)) = _
        rw [show ((j.toNat : Nat) : Int) = j by omega, hm.2.2 j j0 q]
        cases hz : zin (pa p) r L j with
        | true => rw [if_pos rfl]
        | false =>
          rw [if_neg (by decide), zdp_0 hz]
          have := zmx_n (g := zdp (pa p) L) j.toNat
          omega
      rw [e] at this
      exact this
  exact V_X9_greatestDepth (key 0 (by omega) (by omega))
/-! by breadth -/
theorem zBs_all {k : Int} : zBs ac ed zAll r L k = if zin ac r L (ac k / 4) = false then k :: L else L := by
  unfold zBs
  by_cases q : zin ac r L (ac k / 4) = false
  · rw [if_pos ⟨rfl, q⟩, if_pos q]
  · rw [if_neg (fun w => q w.2), if_neg q]
theorem e_byBreadth (hv : zV p) (hr : 0 ≤ pr p ∧ pr p < pF p) (hc : zCK μ (pS p) (pn p)) (hj : zRwC μ 21 p) (hk : ∀ m, zTC μ m p (pr p) (zBF (pa p) (pe p) zAll (pr p)) → K (zmx (pF p).toNat (zdp (pa p) (zBF (pa p) (pe p) zAll (pr p)))) m) : z_ci m_X9_growByBreadth [(2, 6), (2, 21)] μ (d + 3) K := by
  have sk := zV_sk hv
  have F0 : pF p ≤ 30 := sk.1.2
  refine V_X9_growByBreadth (e_startTree hv hr hc hj (fun m1 t1 q1 _ => ?_))
  have outer : ∀ (n : Nat) (i : Int) (L : List Int) (m : z_Mem), 0 ≤ i → 31 - i = n → zTr (pF p) (pa p) (pe p) zAll (pr p) L → zTC μ m p (pr p) L → zRow (pa p) (pr p) L (m 17) → (∀ m, zTC μ m p (pr p) (zBq (pa p) (pe p) zAll (pr p) n i L) → K (zmx (pF p).toNat (zdp (pa p) (zBq (pa p) (pe p) zAll (pr p) n i L))) m) → z_ri m_X9_growByBreadth 9 [some (2, 6), some (2, 21), some (0, L.length + 1), some (0, i), none] m (d + 3) K := by
    intro n
    induction n with
    | zero =>
      intro i L m i0 i1 ht hm hq hk
      have := zTr_le sk hr ht
      have F0' : pF p ≤ 30 := F0
      exact V_X9_growByBreadth_9 ⟨fun q => e_greatest hv hc hm (hk m hm), fun q => by omega⟩
    | succ n ih =>
      intro i L m i0 i1 ht hm hq hk
      have ln : (L.length : Int) + 1 ≤ pF p := zTr_le sk hr ht
      have e0 : zBq (pa p) (pe p) zAll (pr p) (n + 1) i L = if i < L.length + 1 then zBq (pa p) (pe p) zAll (pr p) n (i + 1) (zBt (pa p) (pe p) zAll (pr p) L (zfj (pa p) (pr p) L i) 4) else L := rfl
      refine V_X9_growByBreadth_9 ⟨fun q => ?_, fun q => ⟨fun q3 => by omega, fun q4 => ?_⟩⟩
      · rw [e0, if_neg (by omega)] at hk
        exact e_greatest hv hc hm (hk m hm)
      · rw [e0, if_pos q] at hk
        have fr := zTr_in sk hr ht (zin_j (j := i))
        generalize hfj : zfj (pa p) (pr p) L i = f at fr hk
        have fin : zin (pa p) (pr p) L f = true := by rw [← hfj]; exact zin_j
        have fr' : 0 ≤ f ∧ f < pF p := fr
        have inner : ∀ t, 0 ≤ t → t ≤ 4 → ∀ (m : z_Mem), zTC μ m p (pr p) (zBt (pa p) (pe p) zAll (pr p) L f t.toNat) → zRow (pa p) (pr p) (zBt (pa p) (pe p) zAll (pr p) L f t.toNat) (m 17) → z_ri m_X9_growByBreadth 23 [some (2, 6), some (2, 21), some (0, (zBt (pa p) (pe p) zAll (pr p) L f t.toNat).length + 1), some (0, i), some (0, t)] m (d + 3) K := by
          refine z_up (fun t t0 t1 ih2 m hm hq => ?_)
          obtain ⟨b1, b2, b3, b4, b5⟩ := zBt_ok fr fin ht t.toNat (by omega)
          have ln' : ((zBt (pa p) (pe p) zAll (pr p) L f t.toNat).length : Int) + 1 ≤ pF p := zTr_le sk hr b1
          have ef : m 17 i = f := by
            rw [hq i i0 (by omega), b3 i q]
            exact hfj
          refine V_X9_growByBreadth_23 ⟨fun q1 => ⟨⟨by omega, by omega⟩, ?_⟩, fun q2 => ?_⟩
          · obtain rfl : t = 4 := by omega
            exact ih (i + 1) _ m (by omega) (by omega) b1 hm hq hk
          · rw [ef]
            have et : zBt (pa p) (pe p) zAll (pr p) L f (t + 1).toNat = zBs (pa p) (pe p) zAll (pr p) (zBt (pa p) (pe p) zAll (pr p) L f t.toNat) (4 * f + t) := by
              rw [show (t + 1).toNat = t.toNat + 1 by omega]
              show zBs _ _ _ _ _ (4 * f + (t.toNat : Int)) = _
              rw [show ((t.toNat : Nat) : Int) = t by omega]
            rw [zBs_all] at et
            refine ⟨by omega, ⟨by omega, by omega⟩, ⟨by omega, by omega⟩, e_growBehind hv hr hc b1 hm (by omega) (by rw [show (4 * f + t) / 4 = f by omega]; exact b2 f fin) ⟨by omega, Int.le_refl _⟩ (fun hz => ⟨⟨by omega, by omega⟩, ?_⟩) (fun hz m' hm' h17 _ => ⟨⟨by omega, by omega⟩, ?_⟩)⟩
            · rw [if_neg (by rw [hz]; decide)] at et
              have := ih2 q2 m (by rw [et]; exact hm) (by rw [et]; exact hq)
              rw [et] at this
              exact this
            · rw [if_pos hz] at et
              have := ih2 q2 m' (by rw [et]; exact hm') (by rw [et, h17]; exact zRow_s hq rfl rfl)
              rw [et, List.length_cons] at this
              exact this
        exact inner 0 (by omega) (by omega) m hm hq
  refine outer 31 0 [] m1 (by omega) (by omega) trivial t1 (fun j j0 j1 => ?_) hk
  have : j = 0 := by
    have : (([] : List Int).length : Int) = 0 := rfl
    omega
  rw [this]
  exact q1
end TR

/-! trees: the reference -/
section TM
variable {a b k v r f : Int} {p : zP} {Q : Int → zP} {L : List Int} {μ μ0 : z_Mem} {d : Nat} {K : Int → z_Mem → Prop} {Kn : z_Mem → Prop}
/-- the reference's tree, as far as it has grown -/
def zTM (μ m : z_Mem) (p : zP) (r : Int) (L : List Int) : Prop := (∀ x i, x ≠ 114 → x ≠ 131 → x ≠ 133 → x ≠ 134 → m x i = μ x i) ∧ zRwM m 114 0 (psH p (zHl (pe p) L)) ∧ ∀ f, 0 ≤ f → f < pF p → m 133 f = zdp (pa p) L f ∧ m 134 f = zi (zin (pa p) r L f)
theorem zTM_K {m : z_Mem} (hv : zV p) (hc : zMK μ (pS p) (pn p)) (h : zTM μ m p r L) : zMK m (pS p) (pn p) := zMK_H (p := p) hv.1 hv.2.1 hc (fun o i q => h.1 o i (by omega) (by omega) (by omega) (by omega)) h.2.1
theorem zTM_s {m m' : z_Mem} (hv : zV p) (h : zTM μ m p r L) (hk : 0 ≤ k ∧ k < 4 * pF p) (hi : zin (pa p) r L (k / 4) = true) (hn : zin (pa p) r L (pa p k / 4) = false) (hx : ∀ x i, x ≠ 131 → ¬ (x = 114 ∧ i = 23 + pe p k) → ¬ (x = 133 ∧ i = pa p k / 4) → ¬ (x = 134 ∧ i = pa p k / 4) → m' x i = m x i) (h1 : m' 114 (23 + pe p k) = 1) (h2 : m' 133 (pa p k / 4) = m 133 (k / 4) + 1) (h3 : m' 134 (pa p k / 4) = 1) : zTM μ m' p r (k :: L) := by
  have sk := zV_sk hv
  have F0 : pF p ≤ 30 := sk.1.2
  obtain ⟨s1, s2, s3, s4, s5, s6⟩ := sk.2.1 k hk.1 hk.2
  have hn7 := hv.1
  refine ⟨fun x i a b c e => by rw [hx x i b (by omega) (by omega) (by omega)]; exact h.1 x i a b c e, ?_, fun f f0 f1 => ⟨?_, ?_⟩⟩
  · have := zRwM_set (H := zon (zHl (pe p) L) (pe p k)) (x := 1) (a := pe p k) h.2.1 hv.1 (by omega) (by rw [zon_e]; rfl) (fun e he => zon_ne he)
    refine zRwM_fr (m := z_st m 114 (23 + pe p k) 1) this hv.1 (fun i i0 i1 => ?_)
    by_cases w : i = 23 + pe p k
    · rw [w, z_st_eq, h1]
    · rw [z_st_ni w]
      exact hx 114 i (by decide) (by omega) (by omega) (by omega)
  · show _ = if f = pa p k / 4 then zdp (pa p) L (k / 4) + 1 else zdp (pa p) L f
    by_cases w : f = pa p k / 4
    · rw [if_pos w, w, h2, (h.2.2 (k / 4) (by omega) (by omega)).1]
    · rw [if_neg w, hx 133 f (by decide) (by omega) (by omega) (by omega)]
      exact (h.2.2 f f0 f1).1
  · show _ = zi (decide (f = pa p k / 4) || zin (pa p) r L f)
    by_cases w : f = pa p k / 4
    · rw [w, h3, decide_eq_true rfl]
      rfl
    · rw [decide_eq_false w, hx 134 f (by decide) (by omega) (by omega) (by omega)]
      exact (h.2.2 f f0 f1).2
theorem e12_deep (hv : zV p) (hr : 0 ≤ r ∧ r < pF p) (hc : zMK μ (pS p) (pn p)) : ∀ (n : Nat) (f : Int) (L : List Int) (m : z_Mem) (Kn : z_Mem → Prop), zTr (pF p) (pa p) (pe p) zAll r L → zin (pa p) r L f = true → pF p ≤ n + L.length → zTM μ (z_st m 134 f 1) p r L → (∀ m', zTM μ m' p r (zdF (pa p) r n f L) → Kn m') → z_cn m_X12_goesDeep [(2, 113), (0, f)] m (d + n) Kn := by
  have sk := zV_sk hv
  have F0 : pF p ≤ 30 := sk.1.2
  intro n
  induction n with
  | zero =>
    intro f L m Kn ht hi hn
    have : (L.length : Int) + 1 ≤ pF p := zTr_le sk hr ht
    omega
  | succ n ih =>
    intro f L m Kn ht hi hn hm hk
    have fr : 0 ≤ f ∧ f < pF p := zTr_in sk hr ht hi
    obtain ⟨_, okS⟩ := zdF_ok sk hr (n + 1) f L ht hi hn
    have okS' : ∀ t : Nat, t ≤ 4 → zTr (pF p) (pa p) (pe p) zAll r (zdS (pa p) r (zdF (pa p) r n) f L t) ∧ (∀ x, zin (pa p) r L x = true → zin (pa p) r (zdS (pa p) r (zdF (pa p) r n) f L t) x = true) ∧ (L.length : Int) ≤ (zdS (pa p) r (zdF (pa p) r n) f L t).length := okS
    have inner : ∀ s : Int, 0 ≤ s → s ≤ 4 → ∀ m2 : z_Mem, zTM μ m2 p r (zdS (pa p) r (zdF (pa p) r n) f L s.toNat) → z_rn m_X12_goesDeep 9 [some (2, 113), some (0, f), some (0, s), none] m2 (d + n + 1) Kn := by
      refine z_up (fun s s0 s4 ih2 m2 hm2 => ?_)
      obtain ⟨b1, b2, b3⟩ := okS' s.toNat (by omega)
      refine V_X12_goesDeep_9 ⟨fun q => ?_, fun q => ?_⟩
      · obtain rfl : s = 4 := by omega
        exact hk m2 hm2
      · have kr : 0 ≤ 4 * f + s ∧ 4 * f + s < 4 * pF p := by omega
        obtain ⟨s1, s2, s3, s4', s5, s6⟩ := sk.2.1 _ kr.1 kr.2
        have G : zGm m2 (pF p) (pa p) (pe p) (pq p) := zMK_G (zTM_K hv hc hm2)
        obtain ⟨g1, g2, g3⟩ := G.2.2.1 _ kr.1 kr.2
        have et : zdS (pa p) r (zdF (pa p) r n) f L (s + 1).toNat = if zin (pa p) r (zdS (pa p) r (zdF (pa p) r n) f L s.toNat) (pa p (4 * f + s) / 4) = true then zdS (pa p) r (zdF (pa p) r n) f L s.toNat else zdF (pa p) r n (pa p (4 * f + s) / 4) ((4 * f + s) :: zdS (pa p) r (zdF (pa p) r n) f L s.toNat) := by
          rw [show (s + 1).toNat = s.toNat + 1 by omega]
          show (if zin (pa p) r _ (pa p (4 * f + ((s.toNat : Nat) : Int)) / 4) = true then _ else zdF (pa p) r n (pa p (4 * f + ((s.toNat : Nat) : Int)) / 4) ((4 * f + ((s.toNat : Nat) : Int)) :: _)) = _
          rw [show ((s.toNat : Nat) : Int) = s by omega]
        rw [g1, g3, (hm2.2.2 _ (by omega) (by omega)).2]
        refine ⟨⟨by omega, by omega⟩, ⟨by omega, by omega⟩, by omega, by omega, fun q3 => ⟨⟨by omega, by omega⟩, ?_⟩, fun q4 => ?_⟩
        · have hz : zin (pa p) r (zdS (pa p) r (zdF (pa p) r n) f L s.toNat) (pa p (4 * f + s) / 4) = true := by
            cases hz : zin (pa p) r (zdS (pa p) r (zdF (pa p) r n) f L s.toNat) (pa p (4 * f + s) / 4) with
            | true => rfl
            | false => rw [hz] at q3; exact absurd rfl q3
          rw [if_pos hz] at et
          exact ih2 q m2 (by rw [et]; exact hm2)
        · have hz : zin (pa p) r (zdS (pa p) r (zdF (pa p) r n) f L s.toNat) (pa p (4 * f + s) / 4) = false := by
            cases hz : zin (pa p) r (zdS (pa p) r (zdF (pa p) r n) f L s.toNat) (pa p (4 * f + s) / 4) with
            | false => rfl
            | true => rw [hz] at q4; exact absurd q4 (by decide)
          rw [if_neg (by rw [hz]; decide)] at et
          have ht' : zTr (pF p) (pa p) (pe p) zAll r ((4 * f + s) :: zdS (pa p) r (zdF (pa p) r n) f L s.toNat) := ⟨⟨kr, rfl, by rw [show (4 * f + s) / 4 = f by omega]; exact b2 f hi, hz⟩, b1⟩
          have gf : pa p (4 * f + s) / 4 ≠ f := fun w => by rw [w, b2 f hi] at hz; cases hz
          have w133 : ∀ v, z_st m2 114 (23 + pe p (4 * f + s)) v 133 f = zdp (pa p) (zdS (pa p) r (zdF (pa p) r n) f L s.toNat) f := fun v => by
            rw [z_st_ne (by decide)]
            exact (hm2.2.2 f fr.1 fr.2).1
          have db := zdp_b (ac := pa p) (L := zdS (pa p) r (zdF (pa p) r n) f L s.toNat) (f := f)
          have ln : ((zdS (pa p) r (zdF (pa p) r n) f L s.toNat).length : Int) + 1 ≤ pF p := zTr_le sk hr b1
          rw [w133]
          refine ⟨(by first | omega | exact ⟨by omega, by omega⟩), (by first | omega | exact ⟨by omega, by omega⟩), (by first | omega | exact ⟨by omega, by omega⟩), (by first | omega | exact ⟨by omega, by omega⟩), (by first | omega | exact ⟨by omega, by omega⟩), (by first | omega | exact ⟨by omega, by omega⟩), (by first | omega | exact ⟨by omega, by omega⟩), (by first | omega | exact ⟨by omega, by omega⟩), ?_⟩
          refine ih (pa p (4 * f + s) / 4) _ _ _ ht' zin_h (by rw [List.length_cons]; omega) ?_ (fun m4 t4 => ⟨⟨by omega, by omega⟩, ih2 q m4 (by rw [et]; exact t4)⟩)
          refine zTM_s hv hm2 kr (by rw [show (4 * f + s) / 4 = f by omega]; exact b2 f hi) hz (fun x i c1 c2 c3 c4 => ?_) ?_ ?_ z_st_eq
          · rw [z_st_nx c4, z_st_nx c3, z_st_nx c2]
          · rw [z_st_ne (by decide), z_st_ne (by decide), z_st_eq]
          · rw [z_st_ne (by decide), z_st_eq, show (4 * f + s) / 4 = f by omega, (hm2.2.2 f fr.1 fr.2).1]
    exact V_X12_goesDeep ⟨by omega, inner 0 (by omega) (by omega) _ hm⟩
theorem e12_wide (hv : zV p) (hr : 0 ≤ r ∧ r < pF p) (hc : zMK μ (pS p) (pn p)) (hm0 : zTM μ (z_st (z_st μ0 134 r 1) 131 0 r) p r []) (hk : ∀ m, zTM μ m p r (zBF (pa p) (pe p) zAll r) → Kn m) : z_cn m_X12_goesWide [(2, 113), (0, r)] μ0 d Kn := by
  have sk := zV_sk hv
  have F0 : pF p ≤ 30 := sk.1.2
  have outer : ∀ (n : Nat) (i : Int) (L : List Int) (m : z_Mem), 0 ≤ i → 31 - i = n → zTr (pF p) (pa p) (pe p) zAll r L → zTM μ m p r L → zRow (pa p) r L (m 131) → (∀ m, zTM μ m p r (zBq (pa p) (pe p) zAll r n i L) → Kn m) → z_rn m_X12_goesWide 18 [some (2, 113), none, some (0, L.length + 1), some (0, i), none, none] m d Kn := by
    intro n
    induction n with
    | zero =>
      intro i L m i0 i1 ht hm hq hk
      have := zTr_le sk hr ht
      have F0' : pF p ≤ 30 := F0
      exact V_X12_goesWide_18 ⟨fun q => hk m hm, fun q => by omega⟩
    | succ n ih =>
      intro i L m i0 i1 ht hm hq hk
      have ln : (L.length : Int) + 1 ≤ pF p := zTr_le sk hr ht
      have e0 : zBq (pa p) (pe p) zAll r (n + 1) i L = if i < L.length + 1 then zBq (pa p) (pe p) zAll r n (i + 1) (zBt (pa p) (pe p) zAll r L (zfj (pa p) r L i) 4) else L := rfl
      refine V_X12_goesWide_18 ⟨fun q => ?_, fun q => ?_⟩
      · rw [e0, if_neg (by omega)] at hk
        exact hk m hm
      · rw [e0, if_pos q] at hk
        have fr := zTr_in sk hr ht (zin_j (j := i))
        generalize hfj : zfj (pa p) r L i = f at fr hk
        have fin : zin (pa p) r L f = true := by rw [← hfj]; exact zin_j
        have fr' : 0 ≤ f ∧ f < pF p := fr
        have inner : ∀ t, 0 ≤ t → t ≤ 4 → ∀ (m : z_Mem), zTM μ m p r (zBt (pa p) (pe p) zAll r L f t.toNat) → zRow (pa p) r (zBt (pa p) (pe p) zAll r L f t.toNat) (m 131) → z_rn m_X12_goesWide 26 [some (2, 113), none, some (0, (zBt (pa p) (pe p) zAll r L f t.toNat).length + 1), some (0, i), some (0, t), none] m d Kn := by
          refine z_up (fun t t0 t1 ih2 m hm hq => ?_)
          obtain ⟨b1, b2, b3, b4, b5⟩ := zBt_ok fr fin ht t.toNat (by omega)
          have ln' : ((zBt (pa p) (pe p) zAll r L f t.toNat).length : Int) + 1 ≤ pF p := zTr_le sk hr b1
          have ef : m 131 i = f := by
            rw [hq i i0 (by omega), b3 i q]
            exact hfj
          refine V_X12_goesWide_26 ⟨fun q1 => ⟨⟨by omega, by omega⟩, ?_⟩, fun q2 => ?_⟩
          · obtain rfl : t = 4 := by omega
            exact ih (i + 1) _ m (by omega) (by omega) b1 hm hq hk
          · have kr : 0 ≤ 4 * f + t ∧ 4 * f + t < 4 * pF p := by omega
            obtain ⟨s1, s2, s3, s4', s5, s6⟩ := sk.2.1 _ kr.1 kr.2
            have G : zGm m (pF p) (pa p) (pe p) (pq p) := zMK_G (zTM_K hv hc hm)
            obtain ⟨g1, g2, g3⟩ := G.2.2.1 _ kr.1 kr.2
            have et : zBt (pa p) (pe p) zAll r L f (t + 1).toNat = zBs (pa p) (pe p) zAll r (zBt (pa p) (pe p) zAll r L f t.toNat) (4 * f + t) := by
              rw [show (t + 1).toNat = t.toNat + 1 by omega]
              show zBs _ _ _ _ _ (4 * f + (t.toNat : Int)) = _
              rw [show ((t.toNat : Nat) : Int) = t by omega]
            rw [zBs_all] at et
            rw [ef, g1, (hm.2.2 _ (by omega) (by omega)).2]
            refine ⟨by omega, ⟨by omega, by omega⟩, ⟨by omega, by omega⟩, by omega, by omega, fun q3 => ⟨⟨by omega, by omega⟩, ?_⟩, fun q4 => ?_⟩
            · have hz : zin (pa p) r (zBt (pa p) (pe p) zAll r L f t.toNat) (pa p (4 * f + t) / 4) = true := by
                cases hz : zin (pa p) r (zBt (pa p) (pe p) zAll r L f t.toNat) (pa p (4 * f + t) / 4) with
                | true => rfl
                | false => rw [hz] at q3; exact absurd rfl q3
              rw [if_neg (by rw [hz]; decide)] at et
              have := ih2 q2 m (by rw [et]; exact hm) (by rw [et]; exact hq)
              rw [et] at this
              exact this
            · have hz : zin (pa p) r (zBt (pa p) (pe p) zAll r L f t.toNat) (pa p (4 * f + t) / 4) = false := by
                cases hz : zin (pa p) r (zBt (pa p) (pe p) zAll r L f t.toNat) (pa p (4 * f + t) / 4) with
                | false => rfl
                | true => rw [hz] at q4; exact absurd q4 (by decide)
              rw [if_pos hz] at et
              have lt := zTr_lt sk hr b1 (f := pa p (4 * f + t) / 4) (by omega) hz
              have lt' : ((zBt (pa p) (pe p) zAll r L f t.toNat).length : Int) + 1 < pF p := lt
              have dp := hm.2.2 f fr'.1 fr'.2
              have db := zdp_b (ac := pa p) (L := zBt (pa p) (pe p) zAll r L f t.toNat) (f := f)
              simp only [z_st_rd, Int.reduceEq, false_and, if_false]
              rw [g1, g3, ef, dp.1]
              refine ⟨(by first | omega | exact ⟨by omega, by omega⟩), (by first | omega | exact ⟨by omega, by omega⟩), (by first | omega | exact ⟨by omega, by omega⟩), (by first | omega | exact ⟨by omega, by omega⟩), (by first | omega | exact ⟨by omega, by omega⟩), (by first | omega | exact ⟨by omega, by omega⟩), (by first | omega | exact ⟨by omega, by omega⟩), (by first | omega | exact ⟨by omega, by omega⟩), (by first | omega | exact ⟨by omega, by omega⟩), (by first | omega | exact ⟨by omega, by omega⟩), (by first | omega | exact ⟨by omega, by omega⟩), (by first | omega | exact ⟨by omega, by omega⟩), (by first | omega | exact ⟨by omega, by omega⟩), (by first | omega | exact ⟨by omega, by omega⟩), ?_⟩
              have := ih2 q2 (z_st (z_st (z_st (z_st m 134 (pa p (4 * f + t) / 4) 1) 114 (23 + pe p (4 * f + t)) 1) 133 (pa p (4 * f + t) / 4) (zdp (pa p) (zBt (pa p) (pe p) zAll r L f t.toNat) f + 1)) 131 ((zBt (pa p) (pe p) zAll r L f t.toNat).length + 1) (pa p (4 * f + t) / 4)) ?_ ?_
              · rw [et, List.length_cons] at this
                exact this
              · rw [et]
                refine zTM_s hv hm kr (by rw [show (4 * f + t) / 4 = f by omega]; exact b2 f fin) hz (fun x i c1 c2 c3 c4 => ?_) ?_ ?_ ?_
                · rw [z_st_ne c1, z_st_nx c3, z_st_nx c2, z_st_nx c4]
                · rw [z_st_ne (by decide), z_st_ne (by decide), z_st_eq]
                · rw [z_st_ne (by decide), z_st_eq, show (4 * f + t) / 4 = f by omega, dp.1]
                · rw [z_st_ne (by decide), z_st_ne (by decide), z_st_ne (by decide), z_st_eq]
              · rw [et, zs_up_st, zs_up_so (by decide), zs_up_so (by decide), zs_up_so (by decide)]
                exact zRow_s hq rfl rfl
        exact inner 0 (by omega) (by omega) m hm hq
  refine V_X12_goesWide ⟨by omega, outer 31 0 [] _ (by omega) (by omega) trivial hm0 (fun j j0 j1 => ?_) hk⟩
  have : j = 0 := by
    have : (([] : List Int).length : Int) = 0 := rfl
    omega
  rw [this, z_st_eq]
  rfl
end TM

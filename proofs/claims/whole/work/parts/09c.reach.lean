/-! the skin and the HINGES in a memory -/
def zGc (m : z_Mem) (F : Int) (ac ed es : Int → Int) : Prop := m 6 2 = F ∧ m 6 8 = 2 * F ∧ (∀ k, 0 ≤ k → k < 4 * F → m 11 k = ac k ∧ m 12 k = ed k) ∧ ∀ e, 0 ≤ e → e < 2 * F → m 13 (2 * e) = es e ∧ m 13 (2 * e + 1) = ac (es e)
def zGm (m : z_Mem) (F : Int) (ac ed es : Int → Int) : Prop := m 113 21 = F ∧ m 113 22 = 2 * F ∧ (∀ k, 0 ≤ k → k < 4 * F → m 123 k = ac k / 4 ∧ m 124 k = ac k % 4 ∧ m 126 k = ed k) ∧ ∀ e, 0 ≤ e → e < 2 * F → m 127 e = es e
def zHb (v : Int) (H : Int → Bool) : Prop := (0 ≤ v ∧ v < ((2 ^ 60 : Nat) : Int)) ∧ ∀ e, 0 ≤ e → zbt v e = H e
def zHm (m : z_Mem) (H : Int → Bool) : Prop := ∀ e, 0 ≤ e → e < 60 → m 114 (23 + e) = zi (H e)
theorem zGc_fr {m m' : z_Mem} {F : Int} {ac ed es : Int → Int} (h : zGc m F ac ed es) (hf : ∀ o i, (o = 6 ∧ (i = 2 ∨ i = 8)) ∨ (11 ≤ o ∧ o ≤ 13) → m' o i = m o i) : zGc m' F ac ed es := by
  obtain ⟨a, b, c, d⟩ := h
  refine ⟨by rw [hf 6 2 (by decide)]; exact a, by rw [hf 6 8 (by decide)]; exact b, fun k k0 k1 => by rw [hf 11 k (by omega), hf 12 k (by omega)]; exact c k k0 k1, fun e e0 e1 => by rw [hf 13 _ (by omega), hf 13 _ (by omega)]; exact d e e0 e1⟩
theorem zGm_fr {m m' : z_Mem} {F : Int} {ac ed es : Int → Int} (h : zGm m F ac ed es) (hf : ∀ o i, (o = 113 ∧ (i = 21 ∨ i = 22)) ∨ (123 ≤ o ∧ o ≤ 127) → m' o i = m o i) : zGm m' F ac ed es := by
  obtain ⟨a, b, c, d⟩ := h
  refine ⟨by rw [hf 113 21 (by decide)]; exact a, by rw [hf 113 22 (by decide)]; exact b, fun k k0 k1 => by rw [hf 123 k (by omega), hf 124 k (by omega), hf 126 k (by omega)]; exact c k k0 k1, fun e e0 e1 => by rw [hf 127 _ (by omega)]; exact d e e0 e1⟩
theorem zHm_fr {m m' : z_Mem} {H : Int → Bool} (h : zHm m H) (hf : ∀ i, 23 ≤ i → i < 83 → m' 114 i = m 114 i) : zHm m' H := fun e e0 e1 => by rw [hf _ (by omega) (by omega)]; exact h e e0 e1
section RC
variable {F r a b c f v : Int} {ac ed es : Int → Int} {H : Int → Bool} {μ μ0 : z_Mem} {d : Nat} {K : Int → z_Mem → Prop} {Kn : z_Mem → Prop}
/-- the class: FACES come to -/
def zPC (μ0 m : z_Mem) (ac : Int → Int) (r : Int) (L : List Int) (v : Int) : Prop := (∀ o i, o ≠ 17 → o ≠ 18 → m o i = μ0 o i) ∧ zRow ac r L (m 17) ∧ zWh ac r (fun k => k / 4) L (m 18) ∧ zBi ac r L v
theorem e_reach (sk : zSK F ac ed es) (hG : zGc μ0 F ac ed es) (hb : zHb b H) (hr : 0 ≤ r ∧ r < F) (hk : ∀ m v, zPC μ0 m ac r (zBF ac ed H r) v → K v m) : z_ci m_X9_reach [(2, 6), (0, r), (1, b)] μ0 d K := by
  have F30 := sk.1.2
  have outer : ∀ (n : Nat) (i : Int) (L : List Int) (m : z_Mem) (v : Int), 0 ≤ i → 31 - i = n → zTr F ac ed H r L → zPC μ0 m ac r L v → (∀ m v, zPC μ0 m ac r (zBq ac ed H r n i L) v → K v m) → z_ri m_X9_reach 39 [some (2, 6), none, some (1, b), none, some (0, v), some (0, L.length + 1), some (0, i), none, none, none] m d K := by
    intro n
    induction n with
    | zero =>
      intro i L m v i0 i1 ht hm hk
      have := zTr_le sk hr ht
      exact V_X9_reach_39 ⟨fun q => hk m v hm, fun q => by omega⟩
    | succ n ih =>
      intro i L m v i0 i1 ht hm hk
      have ln := zTr_le sk hr ht
      have e0 : zBq ac ed H r (n + 1) i L = if i < L.length + 1 then zBq ac ed H r n (i + 1) (zBt ac ed H r L (zfj ac r L i) 4) else L := rfl
      refine V_X9_reach_39 ⟨fun q => ?_, fun q => ⟨fun q3 => by omega, fun q4 => ?_⟩⟩
      · rw [e0, if_neg (by omega)] at hk
        exact hk m v hm
      · rw [e0, if_pos q] at hk
        have ef : m 17 i = zfj ac r L i := hm.2.1 i i0 q
        have fr := zTr_in sk hr ht (zin_j (j := i))
        rw [ef]
        generalize hfj : zfj ac r L i = f at fr hk
        have fin : zin ac r L f = true := by rw [← hfj]; exact zin_j
        refine ⟨⟨by omega, by omega⟩, ⟨by omega, by omega⟩, ?_⟩
        have inner : ∀ t, 0 ≤ t → t ≤ 4 → ∀ (m : z_Mem) (v : Int), zPC μ0 m ac r (zBt ac ed H r L f t.toNat) v → z_ri m_X9_reach 68 [some (2, 6), none, some (1, b), none, some (0, v), some (0, (zBt ac ed H r L f t.toNat).length + 1), some (0, i), some (0, f), some (0, 4 * f + t), none] m d K := by
          refine z_up (fun t t0 t1 ih2 m v hm => ?_)
          obtain ⟨b1, b2, b3, b4, b5⟩ := zBt_ok fr fin ht t.toNat (by omega)
          have ln' := zTr_le sk hr b1
          refine V_X9_reach_68 ⟨⟨by omega, by omega⟩, ⟨by omega, by omega⟩, fun q1 => ⟨⟨by omega, by omega⟩, ?_⟩, fun q2 => ?_⟩
          · obtain rfl : t = 4 := by omega
            exact ih (i + 1) _ m v (by omega) (by omega) b1 hm hk
          · have kr : 0 ≤ 4 * f + t ∧ 4 * f + t < 4 * F := by omega
            obtain ⟨s1, s2, s3, s4, s5, s6⟩ := sk.2.1 _ kr.1 kr.2
            obtain ⟨g1, g2⟩ := hG.2.2.1 _ kr.1 kr.2
            have w1 : m 11 (4 * f + t) = ac (4 * f + t) := by rw [hm.1 11 _ (by decide) (by decide)]; exact g1
            have w2 : m 12 (4 * f + t) = ed (4 * f + t) := by rw [hm.1 12 _ (by decide) (by decide)]; exact g2
            have v0 := hm.2.2.2.1.1
            rw [w1, w2, zbt_l hb.1.1, zbt_z v0, hb.2 _ s4.1, hm.2.2.2.2 _ (by omega)]
            have nb := zdv_n (a := ed (4 * f + t)) hb.1.1
            have et : zBt ac ed H r L f (t + 1).toNat = zBs ac ed H r (zBt ac ed H r L f t.toNat) (4 * f + t) := by
              rw [show (t + 1).toNat = t.toNat + 1 by omega]
              show zBs _ _ _ _ _ (4 * f + (t.toNat : Int)) = _
              rw [show ((t.toNat : Nat) : Int) = t by omega]
            have nx : ∀ (m' : z_Mem) (v' : Int), zPC μ0 m' ac r (zBs ac ed H r (zBt ac ed H r L f t.toNat) (4 * f + t)) v' → z_ri m_X9_reach 68 [some (2, 6), none, some (1, b), none, some (0, v'), some (0, (zBs ac ed H r (zBt ac ed H r L f t.toNat) (4 * f + t)).length + 1), some (0, i), some (0, f), some (0, 4 * f + t + 1), none] m' d K := fun m' v' h' => by
              have := ih2 (by omega) m' v' (by rw [et]; exact h')
              rw [et, show 4 * f + (t + 1) = 4 * f + t + 1 by omega] at this
              exact this
            refine ⟨by omega, by omega, by omega, hb.1.1, ⟨nb, by decide⟩, fun q3 => ⟨⟨by omega, by omega⟩, ?_⟩, fun q4 => ⟨by omega, v0, fun q5 => ⟨⟨by omega, by omega⟩, ?_⟩, fun q6 => ⟨fun q7 => ?_, fun q8 => ⟨by omega, ⟨v0, ?_⟩, by omega, by omega, ⟨by omega, by omega⟩, ⟨by omega, by omega⟩, ?_⟩⟩⟩⟩
            · have es' : zBs ac ed H r (zBt ac ed H r L f t.toNat) (4 * f + t) = zBt ac ed H r L f t.toNat := by unfold zBs; exact if_neg (fun w => by rw [q3] at w; cases w.1)
              have := nx m v (by rw [es']; exact hm)
              rw [es'] at this
              exact this
            · have es' : zBs ac ed H r (zBt ac ed H r L f t.toNat) (4 * f + t) = zBt ac ed H r L f t.toNat := by unfold zBs; exact if_neg (fun w => q5 w.2)
              have := nx m v (by rw [es']; exact hm)
              rw [es'] at this
              exact this
            · have := zTr_lt sk hr b1 (f := ac (4 * f + t) / 4) (by omega) q6
              omega
            · rw [zpw']
              exact Int.natCast_nonneg _
            · have hh : H (ed (4 * f + t)) = true := by
                cases hz : H (ed (4 * f + t)) with
                | true => rfl
                | false => exact absurd hz q4
              have es' : zBs ac ed H r (zBt ac ed H r L f t.toNat) (4 * f + t) = (4 * f + t) :: zBt ac ed H r L f t.toNat := by unfold zBs; exact if_pos ⟨hh, q6⟩
              have := nx (z_st (z_st m 18 (ac (4 * f + t) / 4) f) 17 ((zBt ac ed H r L f t.toNat).length + 1) (ac (4 * f + t) / 4)) (zor v (ac (4 * f + t) / 4)) ?_
              · rw [es', List.length_cons] at this
                exact this
              · rw [es']
                refine ⟨fun o i a b => by rw [z_st_ne a, z_st_ne b]; exact hm.1 o i a b, ?_, ?_, zBi_s hm.2.2.2 (by omega)⟩
                · rw [zs_up_st, zs_up_so (by decide)]
                  exact zRow_s hm.2.1 rfl rfl
                · rw [zs_up_so (by decide), zs_up_st]
                  exact zWh_s hm.2.2.1 q6 rfl (by omega)
        have := inner 0 (by omega) (by omega) m v hm
        rw [show 4 * f + 0 = 4 * f by omega] at this
        exact this
  refine V_X9_reach ⟨fun q => by omega, fun q => ⟨fun q3 => ⟨by omega, by omega, ?_⟩, fun q4 => by rw [hG.1] at q4; omega⟩⟩
  have := outer 31 0 [] (z_st (z_st μ0 17 0 r) 18 r (-1)) ((2 : Int) ^ r.toNat) (by omega) (by omega) trivial ⟨fun o i a b => by rw [z_st_ne b, z_st_ne a], ?_, ?_, zBi_0 (by omega)⟩ hk
  · exact this
  · intro j j0 j1
    have : j = 0 := by
      have : (([] : List Int).length : Int) = 0 := rfl
      omega
    rw [this, z_st_ne (by decide), z_st_eq]
    rfl
  · exact ⟨z_st_eq, fun k hk => by cases hk⟩
theorem e_isJoined (sk : zSK F ac ed es) (hG : zGc μ0 F ac ed es) (hb : zHb b H) (hr : 0 ≤ r ∧ r < F) (hf : 0 ≤ f ∧ f < F) (hy : ∀ m v, zPC μ0 m ac r (zBF ac ed H r) v → zJ F ac ed H r f → K 1 m) (hn : ∀ m v, zPC μ0 m ac r (zBF ac ed H r) v → ¬ zJ F ac ed H r f → K 0 m) : z_ci m_X9_isJoined [(2, 6), (0, r), (0, f), (1, b)] μ0 (d + 1) K := by
  have F30 := sk.1.2
  refine V_X9_isJoined (a := r) (b := f) (c := b) (e_reach sk hG hb hr (fun m v hm => ⟨by omega, hm.2.2.2.1.1, ?_⟩))
  rw [zbt_z hm.2.2.2.1.1, hm.2.2.2.2 f hf.1]
  refine ⟨fun q => hn m v hm (fun w => ?_), fun q => hy m v hm ?_⟩
  · rw [(zBF_J sk hr).mpr w] at q
    cases q
  · refine (zBF_J sk hr).mp ?_
    cases hz : zin ac r (zBF ac ed H r) f with
    | true => rfl
    | false => exact absurd hz q
/-- the reference: FACES come to -/
def zPM (μ0 m : z_Mem) (F : Int) (ac : Int → Int) (r : Int) (L : List Int) : Prop := (∀ o i, o ≠ 130 → o ≠ 131 → o ≠ 132 → m o i = μ0 o i) ∧ zRow ac r L (m 131) ∧ zWh ac r (fun k => k) L (m 132) ∧ ∀ f, 0 ≤ f → f < F → m 130 f = zi (zin ac r L f)
theorem e12_isHinge (hH : zHm μ H) (ha : 0 ≤ a ∧ a < 60) (hy : H a = true → K 1 μ) (hn : H a = false → K 0 μ) : z_ci m_X12_isHinge [(2, 113), (0, a)] μ d K := by
  refine V_X12_isHinge ⟨⟨by omega, by omega⟩, by omega, ?_⟩
  rw [hH a ha.1 ha.2]
  cases hz : H a with
  | true => exact ⟨fun q => absurd rfl q, fun _ => hy hz⟩
  | false => exact ⟨fun _ => hn hz, fun q => absurd q (by decide)⟩
theorem e12_joins (sk : zSK F ac ed es) (hG : zGm μ0 F ac ed es) (hH : zHm μ0 H) (hr : 0 ≤ r ∧ r < F) (hk : ∀ m, zPM μ0 m F ac r (zBF ac ed H r) → K ((zBF ac ed H r).length + 1) m) : z_ci m_X12_joins [(2, 113), (0, r)] μ0 (d + 1) K := by
  have F30 := sk.1.2
  have outer : ∀ (n : Nat) (i : Int) (L : List Int) (m : z_Mem), 0 ≤ i → 31 - i = n → zTr F ac ed H r L → zPM μ0 m F ac r L → (∀ m, zPM μ0 m F ac r (zBq ac ed H r n i L) → K ((zBq ac ed H r n i L).length + 1) m) → z_ri m_X12_joins 48 [some (2, 113), none, some (0, L.length + 1), some (0, i), none, none] m (d + 1) K := by
    intro n
    induction n with
    | zero =>
      intro i L m i0 i1 ht hm hk
      have := zTr_le sk hr ht
      exact V_X12_joins_48 ⟨fun q => hk m hm, fun q => by omega⟩
    | succ n ih =>
      intro i L m i0 i1 ht hm hk
      have ln := zTr_le sk hr ht
      have e0 : zBq ac ed H r (n + 1) i L = if i < L.length + 1 then zBq ac ed H r n (i + 1) (zBt ac ed H r L (zfj ac r L i) 4) else L := rfl
      refine V_X12_joins_48 ⟨fun q => ?_, fun q => ?_⟩
      · rw [e0, if_neg (by omega)] at hk
        exact hk m hm
      · rw [e0, if_pos q] at hk
        have fr := zTr_in sk hr ht (zin_j (j := i))
        have ef0 : zfj ac r L i = zfj ac r L i := rfl
        generalize hfj : zfj ac r L i = f at fr hk
        have fin : zin ac r L f = true := by rw [← hfj]; exact zin_j
        have inner : ∀ t, 0 ≤ t → t ≤ 4 → ∀ (m : z_Mem), zPM μ0 m F ac r (zBt ac ed H r L f t.toNat) → z_ri m_X12_joins 56 [some (2, 113), none, some (0, (zBt ac ed H r L f t.toNat).length + 1), some (0, i), some (0, t), none] m (d + 1) K := by
          refine z_up (fun t t0 t1 ih2 m hm => ?_)
          obtain ⟨b1, b2, b3, b4, b5⟩ := zBt_ok fr fin ht t.toNat (by omega)
          have ln' := zTr_le sk hr b1
          have ef : m 131 i = f := by
            rw [hm.2.1 i i0 (by omega), b3 i q]
            exact hfj
          refine V_X12_joins_56 ⟨fun q1 => ⟨⟨by omega, by omega⟩, ?_⟩, fun q2 => ?_⟩
          · obtain rfl : t = 4 := by omega
            exact ih (i + 1) _ m (by omega) (by omega) b1 hm hk
          · rw [ef]
            have kr : 0 ≤ 4 * f + t ∧ 4 * f + t < 4 * F := by omega
            obtain ⟨s1, s2, s3, s4, s5, s6⟩ := sk.2.1 _ kr.1 kr.2
            obtain ⟨g1, g2, g3⟩ := hG.2.2.1 _ kr.1 kr.2
            have w1 : m 123 (4 * f + t) = ac (4 * f + t) / 4 := by rw [hm.1 123 _ (by decide) (by decide) (by decide)]; exact g1
            have w2 : m 126 (4 * f + t) = ed (4 * f + t) := by rw [hm.1 126 _ (by decide) (by decide) (by decide)]; exact g3
            have w3 : zHm m H := zHm_fr hH (fun i _ _ => hm.1 114 i (by decide) (by decide) (by decide))
            rw [w2]
            have et : zBt ac ed H r L f (t + 1).toNat = zBs ac ed H r (zBt ac ed H r L f t.toNat) (4 * f + t) := by
              rw [show (t + 1).toNat = t.toNat + 1 by omega]
              show zBs _ _ _ _ _ (4 * f + (t.toNat : Int)) = _
              rw [show ((t.toNat : Nat) : Int) = t by omega]
            have nx : ∀ (m' : z_Mem), zPM μ0 m' F ac r (zBs ac ed H r (zBt ac ed H r L f t.toNat) (4 * f + t)) → z_ri m_X12_joins 56 [some (2, 113), none, some (0, (zBs ac ed H r (zBt ac ed H r L f t.toNat) (4 * f + t)).length + 1), some (0, i), some (0, t + 1), none] m' (d + 1) K := fun m' h' => by
              have := ih2 q2 m' (by rw [et]; exact h')
              rw [et] at this
              exact this
            refine ⟨by omega, ⟨by omega, by omega⟩, ⟨by omega, by omega⟩, by omega, e12_isHinge w3 (by omega) (fun hh => ⟨fun q => absurd q (by decide), fun _ => ?_⟩) (fun hh => ⟨fun _ => ⟨⟨by omega, by omega⟩, ?_⟩, fun q => absurd rfl q⟩)⟩
            · rw [w1, hm.2.2.2 _ (by omega) (by omega)]
              refine ⟨by omega, by omega, fun q3 => ⟨⟨by omega, by omega⟩, ?_⟩, fun q4 => ?_⟩
              · have hz : zin ac r (zBt ac ed H r L f t.toNat) (ac (4 * f + t) / 4) = true := by
                  cases hz : zin ac r (zBt ac ed H r L f t.toNat) (ac (4 * f + t) / 4) with
                  | true => rfl
                  | false => rw [hz] at q3; exact absurd rfl q3
                have es' : zBs ac ed H r (zBt ac ed H r L f t.toNat) (4 * f + t) = zBt ac ed H r L f t.toNat := by unfold zBs; exact if_neg (fun w => by rw [hz] at w; cases w.2)
                have := nx m (by rw [es']; exact hm)
                rw [es'] at this
                exact this
              · have hz : zin ac r (zBt ac ed H r L f t.toNat) (ac (4 * f + t) / 4) = false := by
                  cases hz : zin ac r (zBt ac ed H r L f t.toNat) (ac (4 * f + t) / 4) with
                  | false => rfl
                  | true => rw [hz] at q4; exact absurd q4 (by decide)
                have lt := zTr_lt sk hr b1 (f := ac (4 * f + t) / 4) (by omega) hz
                have es' : zBs ac ed H r (zBt ac ed H r L f t.toNat) (4 * f + t) = (4 * f + t) :: zBt ac ed H r L f t.toNat := by unfold zBs; exact if_pos ⟨hh, hz⟩
                simp only [z_st_rd, Int.reduceEq, false_and, if_false]
                rw [w1]
                refine ⟨by omega, by omega, by omega, by omega, by omega, by omega, ⟨by omega, by omega⟩, ⟨by omega, by omega⟩, ?_⟩
                have := nx (z_st (z_st (z_st m 130 (ac (4 * f + t) / 4) 1) 132 (ac (4 * f + t) / 4) (4 * f + t)) 131 ((zBt ac ed H r L f t.toNat).length + 1) (ac (4 * f + t) / 4)) ?_
                · rw [es', List.length_cons] at this
                  exact this
                · rw [es']
                  refine ⟨fun o i a b c => by rw [z_st_ne b, z_st_ne c, z_st_ne a]; exact hm.1 o i a b c, ?_, ?_, fun g g0 g1 => ?_⟩
                  · rw [zs_up_st, zs_up_so (by decide), zs_up_so (by decide)]
                    exact zRow_s hm.2.1 rfl rfl
                  · rw [zs_up_so (by decide), zs_up_st, zs_up_so (by decide)]
                    exact zWh_s hm.2.2.1 hz rfl rfl
                  · rw [z_st_ne (by decide), z_st_ne (by decide)]
                    show _ = zi (decide (g = ac (4 * f + t) / 4) || zin ac r (zBt ac ed H r L f t.toNat) g)
                    by_cases w : g = ac (4 * f + t) / 4
                    · rw [w, z_st_eq, decide_eq_true rfl]
                      rfl
                    · rw [z_st_ni w, decide_eq_false w, hm.2.2.2 g g0 g1]
                      rfl
            · have es' : zBs ac ed H r (zBt ac ed H r L f t.toNat) (4 * f + t) = zBt ac ed H r L f t.toNat := by unfold zBs; exact if_neg (fun w => by rw [hh] at w; cases w.1)
              have := nx m (by rw [es']; exact hm)
              rw [es'] at this
              exact this
        exact inner 0 (by omega) (by omega) m hm
  have init : ∀ j, 0 ≤ j → j ≤ F → ∀ m : z_Mem, (∀ o i, o ≠ 130 → m o i = μ0 o i) → (∀ g, 0 ≤ g → g < j → m 130 g = 0) → z_ri m_X12_joins 2 [some (2, 113), some (0, r), some (0, j), none, none, none] m (d + 1) K := by
    refine z_up (fun j j0 j1 ih m hm hz => V_X12_joins_2 ?_)
    rw [hm 113 21 (by decide), hG.1]
    refine ⟨fun q => ⟨by omega, by omega, ?_⟩, fun q => ⟨by omega, ⟨by omega, by omega⟩, ih q _ (fun o i a => by rw [z_st_ne a]; exact hm o i a) (fun g g0 g1 => ?_)⟩⟩
    · have := outer 31 0 [] (z_st (z_st (z_st m 130 r 1) 131 0 r) 132 r (-1)) (by omega) (by omega) trivial ⟨fun o i a b c => by rw [z_st_ne c, z_st_ne b, z_st_ne a]; exact hm o i a, ?_, ⟨z_st_eq, fun k hk => by cases hk⟩, fun g g0 g1 => ?_⟩ hk
      · exact this
      · intro j j0 j1
        have : j = 0 := by
          have : (([] : List Int).length : Int) = 0 := rfl
          omega
        rw [this, z_st_ne (by decide), z_st_eq]
        rfl
      · rw [z_st_ne (by decide), z_st_ne (by decide)]
        show _ = zi (decide (g = r))
        by_cases w : g = r
        · rw [w, z_st_eq, decide_eq_true rfl]
          rfl
        · rw [z_st_ni w, decide_eq_false w, hz g g0 (by omega)]
          rfl
    · by_cases w : g = j
      · rw [w, z_st_eq]
      · rw [z_st_ni w]
        exact hz g g0 (by omega)
  exact V_X12_joins (init 0 (by omega) (by omega) μ0 (fun _ _ _ => rfl) (fun g g0 g1 => by omega))
theorem e12_areJoined (sk : zSK F ac ed es) (hG : zGm μ0 F ac ed es) (hH : zHm μ0 H) (hr : 0 ≤ r ∧ r < F) (hf : 0 ≤ f ∧ f < F) (hy : ∀ m, zPM μ0 m F ac r (zBF ac ed H r) → zJ F ac ed H r f → K 1 m) (hn : ∀ m, zPM μ0 m F ac r (zBF ac ed H r) → ¬ zJ F ac ed H r f → K 0 m) : z_ci m_X12_areJoined [(2, 113), (0, r), (0, f)] μ0 (d + 2) K := by
  have F30 := sk.1.2
  refine V_X12_areJoined (e12_joins sk hG hH hr (fun m hm => ?_))
  rw [hm.2.2.2 f hf.1 hf.2]
  have J := zBF_J (H := H) (f := f) sk hr
  cases hz : zin ac r (zBF ac ed H r) f with
  | true =>
    rw [hz] at J
    exact ⟨by omega, Or.inr rfl, hy m hm (J.mp rfl)⟩
  | false =>
    rw [hz] at J
    exact ⟨by omega, Or.inl rfl, hn m hm (fun w => by have := J.mpr w; cases this)⟩
end RC

/-! VERTICES: both sides -/
def znx (c : Int) : Int := 4 * (c / 4) + (c + 1) % 4
def zpv (c : Int) : Int := 4 * (c / 4) + (c + 3) % 4
theorem znx_b : ∀ a : Nat, a < 120 → (a ^^^ (a &&& 3)) ||| ((a + 1) % 4) = 4 * (a / 4) + (a + 1) % 4 := by decide +kernel
theorem znx_pv {c : Int} : zpv (znx c) = c ∧ znx (zpv c) = c ∧ znx c / 4 = c / 4 ∧ zpv c / 4 = c / 4 := by
  unfold zpv znx
  omega
theorem znx_r {c F : Int} (h : 0 ≤ c ∧ c < 4 * F) : (0 ≤ znx c ∧ znx c < 4 * F) ∧ (0 ≤ zpv c ∧ zpv c < 4 * F) := by
  unfold zpv znx
  omega
def zph (ac : Int → Int) (c : Int) : Int := ac (znx c)
def zps (ac : Int → Int) (c : Int) : Int := zpv (ac c)
def zA (F : Int) (ac : Int → Int) : Prop := ∀ k, 0 ≤ k → k < 4 * F → (0 ≤ ac k ∧ ac k < 4 * F) ∧ ac (ac k) = k ∧ ac k ≠ k
theorem zPm_ph {F : Int} {ac : Int → Int} (hA : zA F ac) : zPm (zph ac) (zps ac) (4 * F) := by
  intro c c0 c1
  obtain ⟨h1, h2⟩ := znx_r ⟨c0, c1⟩
  obtain ⟨a1, a2, a3⟩ := hA c c0 c1
  obtain ⟨b1, b2, b3⟩ := hA (znx c) h1.1 h1.2
  unfold zph zps
  refine ⟨b1, (znx_r a1).2, ?_, ?_⟩
  · rw [b2]
    exact znx_pv.1
  · rw [znx_pv.2.1]
    exact a2
theorem zPm_sw {p q : Int → Int} {N : Int} (h : zPm p q N) : zPm q p N := fun c c0 c1 => by
  obtain ⟨a, b, c, e⟩ := h c c0 c1
  exact ⟨b, a, e, c⟩
theorem zN_full {P : Int → Bool} {n : Nat} (h : zN n P = n) {k : Int} (hk : 0 ≤ k ∧ k < n) : P k = true := by
  cases hp : P k with
  | true => rfl
  | false =>
    have := zN_lt (Q := fun _ => true) n (fun i _ _ _ => rfl) hk hp rfl
    have := (zN_r (P := fun _ => true) n).2
    omega
section VA
variable {F V a : Int} {ac : Int → Int} {μ μ0 : z_Mem} {d : Nat} {K : Int → z_Mem → Prop} {Kn : z_Mem → Prop}
theorem e_nextSlot (ha : 0 ≤ a ∧ a < 120) (h : K (znx a) μ) : z_ci m_X11_nextSlot [(0, a)] μ d K := by
  refine V_X11_nextSlot ⟨by omega, ⟨by omega, by omega⟩, ⟨by omega, by omega⟩, ?_⟩
  have := znx_b a.toNat (by omega)
  have e1 : ((a + 1) % 4).toNat = (a.toNat + 1) % 4 := by omega
  have e3 : (3 : Int).toNat = 3 := rfl
  have e2 : ∀ x : Nat, ((x : Nat) : Int).toNat = x := fun x => by omega
  rw [e2, e1, e3, this]
  have : ((4 * (a.toNat / 4) + (a.toNat + 1) % 4 : Nat) : Int) = znx a := by unfold znx; omega
  rw [this]
  exact h
theorem e_goRound (hF : 0 ≤ F ∧ F ≤ 30) (hA : zA F ac) (h62 : μ0 6 2 = F) (hac : ∀ k, 0 ≤ k → k < 4 * F → μ0 11 k = ac k) (ha : 0 ≤ a ∧ a < 4 * F) (hV : ∀ k, 0 ≤ k → k < 4 * F → μ0 15 k ≠ μ0 6 11) (hor : ∀ k, 0 ≤ k → k < 4 * F → zOr (zph ac) (zps ac) (4 * F) a k → μ0 15 k = -1) (hk : ∀ m c i, (∀ o i, o ≠ 15 → m o i = μ0 o i) → zVI (zph ac) (zps ac) (4 * F) a (μ0 6 11) (μ0 15) (m 15) c i → m 15 c = μ0 6 11 → K i m) : z_ci m_X9_goRound [(2, 6), (0, a)] μ0 (d + 1) K := by
  have hp := zPm_ph hA
  have loop : ∀ (n : Nat) (c i : Int) (m : z_Mem), n = (4 * F - i).toNat → (∀ o i, o ≠ 15 → m o i = μ0 o i) → zVI (zph ac) (zps ac) (4 * F) a (μ0 6 11) (μ0 15) (m 15) c i → z_ri m_X9_goRound 4 [some (2, 6), none, some (0, c), some (0, i)] m (d + 1) K := by
    intro n
    induction n with
    | zero =>
      intro c i m hn hm hv
      have hN : i ≤ 4 * F := by
        have := (zN_r (P := fun k => decide (m 15 k = μ0 6 11)) (4 * F).toNat).2
        have := hv.2.2.2.2.2.2.2.1
        omega
      have cN := zOr_in hp ha hv.2.2.2.2.1
      have hc : m 15 c = μ0 6 11 := by
        have := zN_full (P := fun k => decide (m 15 k = μ0 6 11)) (n := (4 * F).toNat) (by rw [← hv.2.2.2.2.2.2.2.1]; omega) (k := c) (by omega)
        exact of_decide_eq_true this
      refine V_X9_goRound_4 ?_
      rw [hm 6 2 (by decide), h62]
      exact ⟨⟨by omega, by omega⟩, fun q => hk m c i hm hv hc, fun q => by omega⟩
    | succ n ih =>
      intro c i m hn hm hv
      have cN := zOr_in hp ha hv.2.2.2.2.1
      have i0 : 0 ≤ i := by rw [hv.2.2.2.2.2.2.2.1]; exact (zN_r _).1
      have hN : i ≤ 4 * F := by
        have := (zN_r (P := fun k => decide (m 15 k = μ0 6 11)) (4 * F).toNat).2
        have := hv.2.2.2.2.2.2.2.1
        omega
      refine V_X9_goRound_4 ?_
      rw [hm 6 2 (by decide), h62]
      refine ⟨⟨by omega, by omega⟩, fun q => by omega, fun q => ⟨by omega, fun q3 => hk m c i hm hv ?_, fun q4 => ⟨by omega, e_nextSlot (by omega) ?_⟩⟩⟩
      · rcases hv.1 c cN.1 cN.2 with r | r
        · exact r
        · rw [hor c cN.1 cN.2 hv.2.2.2.2.1] at r
          exact absurd r q3
      · have nV : (-1 : Int) ≠ μ0 6 11 := by
          have := hV a ha.1 ha.2
          rw [hor a ha.1 ha.2 zOr_r] at this
          exact this
        have nr := znx_r cN
        rw [z_st_ne (by decide), hm 11 _ (by decide), hac _ nr.1.1 nr.1.2, hm 6 11 (by decide)]
        refine ⟨by omega, ⟨by omega, by omega⟩, ih _ (i + 1) _ (by omega) (fun o i q => by rw [z_st_ne q]; exact hm o i q) ?_⟩
        have e : z_st m 15 c (μ0 6 11) 15 = zs_up (m 15) c (μ0 6 11) := by
          funext j
          unfold zs_up
          by_cases r : j = c
          · rw [if_pos r, r, z_st_eq]
          · rw [if_neg r, z_st_ni r]
        rw [e]
        exact zVI_s hp ha hv (by rw [q4]; exact nV)
  exact V_X9_goRound (loop _ a 0 μ0 rfl (fun _ _ _ => rfl) (zVI_0 hp ha hV))
/-- the class's corners -/
def zCV (μ0 m : z_Mem) (F : Int) (ac : Int → Int) (j : Int) : Prop := (∀ o i, ¬ (o = 6 ∧ i = 11) → o ≠ 15 → o ≠ 16 → m o i = μ0 o i) ∧ zVO (zph ac) (zps ac) (4 * F) j (m 15) (m 16) (m 6 11)
theorem zil_le {p q : Int → Int} {N j : Int} : zN j.toNat (zil p q N) ≤ j.toNat := (zN_r _).2
theorem e_findVertices (hF : 0 ≤ F ∧ F ≤ 30) (hA : zA F ac) (h62 : μ0 6 2 = F) (hac : ∀ k, 0 ≤ k → k < 4 * F → μ0 11 k = ac k) (hk : ∀ m, zCV μ0 m F ac (4 * F) → Kn m) : z_cn m_X9_findVertices [(2, 6)] μ0 (d + 2) Kn := by
  have hp := zPm_ph hA
  have loop : ∀ j, 0 ≤ j → j ≤ 4 * F → ∀ m, zCV μ0 m F ac j → z_rn m_X9_findVertices 32 [some (2, 6), some (0, j)] m (d + 2) Kn := by
    refine z_up (fun j j0 j1 ih m hm => V_X9_findVertices_32 ?_)
    have e62 : m 6 2 = F := by rw [hm.1 6 2 (by decide) (by decide) (by decide)]; exact h62
    rw [e62]
    refine ⟨⟨by omega, by omega⟩, fun q => ?_, fun q => ⟨by omega, fun q3 => ⟨⟨by omega, by omega⟩, ih q m ⟨hm.1, zVO_no hp ⟨j0, q⟩ hm.2 q3⟩⟩, fun q4 => ?_⟩⟩
    · obtain rfl : j = 4 * F := by omega
      exact hk m hm
    · obtain ⟨lj, ev, V0, V1, nv⟩ := zVO_v hp ⟨j0, q⟩ hm.2 q4
      have Vl := zil_le (p := zph ac) (q := zps ac) (N := 4 * F) (j := 4 * F)
      refine e_goRound hF hA e62 (fun k k0 k1 => by rw [hm.1 11 k (by omega) (by decide) (by decide)]; exact hac k k0 k1) ⟨j0, q⟩ nv (fun k k0 k1 ho => ?_) (fun m' c i hf hv hc => ?_)
      · have := zle_eq hp ⟨j0, q⟩ ho
        rw [hm.2.1 k k0 k1, if_neg (by omega)]
      · have w : ∀ v, z_st m' 16 (m 6 11) v 6 11 = m 6 11 := fun v => by rw [z_st_ne (by decide)]; exact hf 6 11 (by decide)
        rw [w]
        have i1 : i ≤ 4 * F := by
          have := (zN_r (P := fun k => decide (m' 15 k = m 6 11)) (4 * F).toNat).2
          have := hv.2.2.2.2.2.2.2.1
          omega
        refine ⟨by omega, ⟨by omega, by omega⟩, ⟨by omega, by omega⟩, ih q _ ⟨fun o i a b c => ?_, ?_⟩⟩
        · rw [z_st_nx a, z_st_ne c, hf o i b]
          exact hm.1 o i a b c
        · have e1 : z_st (z_st m' 16 (m 6 11) i) 6 11 (m 6 11 + 1) 15 = m' 15 := funext fun k => by rw [z_st_ne (by decide), z_st_ne (by decide)]
          rw [e1, z_st_eq]
          refine zVO_yes hp ⟨j0, q⟩ hm.2 q4 hv hc ?_ (fun v hv => ?_)
          · rw [z_st_ne (by decide), z_st_eq]
          · rw [z_st_ne (by decide), z_st_ni hv]
            exact hf 16 v (by decide)
  have init : ∀ j, 0 ≤ j → j ≤ 4 * F → ∀ m : z_Mem, (∀ o i, ¬ (o = 6 ∧ i = 11) → o ≠ 15 → m o i = μ0 o i) → m 6 11 = 0 → (∀ k, 0 ≤ k → k < j → m 15 k = -1) → z_rn m_X9_findVertices 7 [some (2, 6), some (0, j)] m (d + 2) Kn := by
    refine z_up (fun j j0 j1 ih m hm h8 hno => V_X9_findVertices_7 ?_)
    have e62 : m 6 2 = F := by rw [hm 6 2 (by decide) (by decide)]; exact h62
    rw [e62]
    refine ⟨⟨by omega, by omega⟩, fun q => loop 0 (by omega) (by omega) m ⟨fun o i a b c => hm o i a b, ⟨fun k k0 k1 => ?_, ?_, fun v v0 v1 => by omega⟩⟩, fun q => ⟨by omega, ⟨by omega, by omega⟩, ih q _ (fun o i a b => ?_) ?_ (fun k k0 k1 => ?_)⟩⟩
    · have := (zle_p (p := zph ac) (q := zps ac) ⟨k0, k1⟩).1
      rw [if_neg (by omega)]
      exact hno k k0 (by omega)
    · rw [h8]
      rfl
    · rw [z_st_ne b]
      exact hm o i a b
    · rw [z_st_ne (by decide)]
      exact h8
    · by_cases r : k = j
      · rw [r, z_st_eq]
      · rw [z_st_ni r]
        exact hno k k0 (by omega)
  exact V_X9_findVertices (init 0 (by omega) (by omega) _ (fun o i a b => z_st_nx a) z_st_eq (fun k k0 k1 => by omega))
/-- the reference's corners -/
def zMV (μ0 m : z_Mem) (F : Int) (ac : Int → Int) (j : Int) : Prop := (∀ o i, ¬ (o = 113 ∧ i = 23) → o ≠ 128 → o ≠ 129 → m o i = μ0 o i) ∧ zVO (zps ac) (zph ac) (4 * F) j (m 128) (m 129) (m 113 23)
theorem e12_laysVertices (hF : 0 ≤ F ∧ F ≤ 30) (hA : zA F ac) (h21 : μ0 113 21 = F) (hac : ∀ k, 0 ≤ k → k < 4 * F → μ0 123 k = ac k / 4 ∧ μ0 124 k = ac k % 4 ∧ μ0 128 k = -1) (hk : ∀ m, zMV μ0 m F ac (4 * F) → Kn m) : z_cn m_X12_laysVertices [(2, 113)] μ0 (d + 1) Kn := by
  have hp := zPm_sw (zPm_ph hA)
  have loop : ∀ j, 0 ≤ j → j ≤ 4 * F → ∀ m, zMV μ0 m F ac j → z_rn m_X12_laysVertices 7 [some (2, 113), some (0, j), none, none] m (d + 1) Kn := by
    refine z_up (fun j j0 j1 ih m hm => V_X12_laysVertices_7 ?_)
    have e21 : ∀ m : z_Mem, (∀ o i, ¬ (o = 113 ∧ i = 23) → o ≠ 128 → o ≠ 129 → m o i = μ0 o i) → m 113 21 = F := fun m hm => by rw [hm 113 21 (by decide) (by decide) (by decide)]; exact h21
    rw [e21 m hm.1]
    refine ⟨⟨by omega, by omega⟩, fun q => ?_, fun q => ⟨by omega, fun q3 => ?_, fun q4 => ⟨⟨by omega, by omega⟩, ih q m ⟨hm.1, zVO_no hp ⟨j0, q⟩ hm.2 q4⟩⟩⟩⟩
    · obtain rfl : j = 4 * F := by omega
      exact hk m hm
    · obtain ⟨lj, ev, V0, V1, nv⟩ := zVO_v hp ⟨j0, q⟩ hm.2 q3
      have Vl := zil_le (p := zps ac) (q := zph ac) (N := 4 * F) (j := 4 * F)
      have aj : 0 ≤ j ∧ j < 4 * F := ⟨j0, q⟩
      have inner : ∀ (n : Nat) (c i : Int) (m' : z_Mem), n = (4 * F - i).toNat → (∀ o i, o ≠ 128 → ¬ (o = 129 ∧ i = m 113 23) → m' o i = m o i) → m' 129 (m 113 23) = i → zVI (zps ac) (zph ac) (4 * F) j (m 113 23) (m 128) (m' 128) c i → z_rn m_X12_laysVertices 42 [some (2, 113), some (0, j), some (0, c), none] m' (d + 1) Kn := by
        intro n
        have stop : ∀ (c i : Int) (m' : z_Mem), (∀ o i, o ≠ 128 → ¬ (o = 129 ∧ i = m 113 23) → m' o i = m o i) → m' 129 (m 113 23) = i → zVI (zps ac) (zph ac) (4 * F) j (m 113 23) (m 128) (m' 128) c i → m' 128 c = m 113 23 → z_I (m' 113 23 + 1) ∧ z_I (j + 1) ∧ z_rn m_X12_laysVertices 7 [some (2, 113), some (0, j + 1), none, none] (z_st m' 113 23 (m' 113 23 + 1)) (d + 1) Kn := by
          intro c i m' hf h129 hv hc
          have e23 := hf 113 23 (by decide) (by omega)
          rw [e23]
          refine ⟨⟨by omega, by omega⟩, ⟨by omega, by omega⟩, ih q _ ⟨fun o i a b c => ?_, ?_⟩⟩
          · rw [z_st_nx a, hf o i b (by omega)]
            exact hm.1 o i a b c
          · have e1 : z_st m' 113 23 (m 113 23 + 1) 128 = m' 128 := funext fun k => by rw [z_st_ne (by decide)]
            rw [e1, z_st_eq]
            refine zVO_yes hp aj hm.2 q3 hv hc ?_ (fun v hv => ?_)
            · rw [z_st_ne (by decide)]
              exact h129
            · rw [z_st_ne (by decide)]
              exact hf 129 v (by decide) (by omega)
        induction n with
        | zero =>
          intro c i m' hn hf h129 hv
          have cN := zOr_in hp aj hv.2.2.2.2.1
          have hN : i ≤ 4 * F := by
            have := (zN_r (P := fun k => decide (m' 128 k = m 113 23)) (4 * F).toNat).2
            have := hv.2.2.2.2.2.2.2.1
            omega
          have hc : m' 128 c = m 113 23 := by
            have := zN_full (P := fun k => decide (m' 128 k = m 113 23)) (n := (4 * F).toNat) (by rw [← hv.2.2.2.2.2.2.2.1]; omega) (k := c) (by omega)
            exact of_decide_eq_true this
          exact V_X12_laysVertices_42 ⟨by omega, fun _ => stop c i m' hf h129 hv hc, fun q => by omega⟩
        | succ n ihn =>
          intro c i m' hn hf h129 hv
          have cN := zOr_in hp aj hv.2.2.2.2.1
          have i0 : 0 ≤ i := by rw [hv.2.2.2.2.2.2.2.1]; exact (zN_r _).1
          have hN : i ≤ 4 * F := by
            have := (zN_r (P := fun k => decide (m' 128 k = m 113 23)) (4 * F).toNat).2
            have := hv.2.2.2.2.2.2.2.1
            omega
          have or1 : m 128 c = -1 := by
            have := zle_eq hp aj hv.2.2.2.2.1
            rw [hm.2.1 c cN.1 cN.2, if_neg (by omega)]
          refine V_X12_laysVertices_42 ⟨by omega, fun q3 => stop c i m' hf h129 hv ?_, fun q4 => ?_⟩
          · rcases hv.1 c cN.1 cN.2 with r | r
            · exact r
            · rw [or1] at r
              exact absurd r q3
          · have e23 := hf 113 23 (by decide) (by omega)
            obtain ⟨c1, c2, _⟩ := hac c cN.1 cN.2
            have ar := (hA c cN.1 cN.2).1
            have w1 : m' 123 c = ac c / 4 := by rw [hf 123 c (by decide) (by omega), hm.1 123 c (by omega) (by decide) (by decide)]; exact c1
            have w2 : m' 124 c = ac c % 4 := by rw [hf 124 c (by decide) (by omega), hm.1 124 c (by omega) (by decide) (by decide)]; exact c2
            have w3 : ∀ v, z_st m' 128 c v 113 23 = m 113 23 := fun v => by rw [z_st_ne (by decide)]; exact e23
            have w4 : ∀ v, z_st m' 128 c v 129 (m 113 23) = i := fun v => by rw [z_st_ne (by decide)]; exact h129
            have lt : i < 4 * F := by omega
            refine ⟨by omega, ?_⟩
            rw [e23, w3, w4]
            refine ⟨by omega, ⟨by omega, by omega⟩, by omega, V_X12_mate ?_⟩
            simp only [z_st_rd, Int.reduceEq, false_and, if_false]
            rw [w1, w2, show 4 * (ac c / 4) + ac c % 4 = ac c by omega]
            refine ⟨by omega, ⟨by omega, by omega⟩, by omega, ⟨by omega, by omega⟩, ?_⟩
            refine ⟨by omega, ⟨by omega, by omega⟩, ⟨by omega, by omega⟩, by omega, ⟨by omega, by omega⟩, ?_⟩
            rw [show ac c / 4 * 4 + (ac c + 3) % 4 = zps ac c by unfold zps zpv; omega]
            refine ihn _ (i + 1) _ (by omega) (fun o k a b => ?_) z_st_eq ?_
            · rw [z_st_nx b, z_st_ne a]
              exact hf o k a b
            · have e : z_st (z_st m' 128 c (m 113 23)) 129 (m 113 23) (i + 1) 128 = zs_up (m' 128) c (m 113 23) := by
                funext k
                rw [z_st_ne (by decide)]
                unfold zs_up
                by_cases r : k = c
                · rw [if_pos r, r, z_st_eq]
                · rw [if_neg r, z_st_ni r]
              rw [e]
              exact zVI_s hp aj hv (by omega)
      refine ⟨by omega, inner _ j 0 _ rfl (fun o k a b => z_st_nx b) z_st_eq ?_⟩
      have e : z_st m 129 (m 113 23) 0 128 = m 128 := funext fun k => z_st_ne (by decide)
      rw [e]
      exact zVI_0 hp aj nv
  refine V_X12_laysVertices (loop 0 (by omega) (by omega) _ ⟨fun o i a b c => z_st_nx a, fun k k0 k1 => ?_, z_st_eq, fun v v0 v1 => ?_⟩)
  · have := (zle_p (p := zps ac) (q := zph ac) ⟨k0, k1⟩).1
    rw [z_st_ne (by decide), (hac k k0 k1).2.2, if_neg (by omega)]
  · rw [z_st_eq] at v1
    omega
end VA

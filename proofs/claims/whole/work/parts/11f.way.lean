/-! looks: way, count -/
def zpar (ac : Int → Int) : List Int → Int → Int
  | [], _ => -1
  | k :: L, f => if f = ac k / 4 then k / 4 else zpar ac L f
def zanc (ac : Int → Int) (L : List Int) (f : Int) : Nat → Int
  | 0 => f
  | n + 1 => zpar ac L (zanc ac L f n)
abbrev pBo (p : zP) (o : Int) : List Int := zBF (pa p) (pe p) (pH p) o
def zaY (p : zP) (f o k : Int) : Int := if (0 ≤ f ∧ f < pF p) ∧ (0 ≤ o ∧ o < pF p) ∧ ¬ k < -1 then (if zin (pa p) o (pBo p o) f = true then (if k = -1 then zdp (pa p) (pBo p o) f else if zdp (pa p) (pBo p o) f < k then -2 else zanc (pa p) (pBo p o) f k.toNat) else -3) else -1
section WY
variable {a b c k v r f : Int} {p : zP} {L : List Int} {F : Int} {ac ed : Int → Int} {H : Int → Bool} {μ μ0 : z_Mem} {d : Nat} {K : Int → z_Mem → Prop} {Kn : z_Mem → Prop}
theorem zpar_p : ∀ {L : List Int} {f : Int}, zTr F ac ed H r L → zin ac r L f = true → f ≠ r → zin ac r L (zpar ac L f) = true ∧ zdp ac L f = zdp ac L (zpar ac L f) + 1 ∧ ∃ k ∈ L, ac k / 4 = f ∧ k / 4 = zpar ac L f
  | [], f, _, h, hr => absurd (of_decide_eq_true h) hr
  | k :: L, f, ht, h, hr => by
    obtain ⟨⟨h1, h2, h3, h4⟩, h5⟩ := ht
    have h' : (decide (f = ac k / 4) || zin ac r L f) = true := h
    have ne : k / 4 ≠ ac k / 4 := fun w => by rw [← w, h3] at h4; cases h4
    by_cases q : f = ac k / 4
    · have e1 : zpar ac (k :: L) f = k / 4 := if_pos q
      have e2 : zdp ac (k :: L) f = zdp ac L (k / 4) + 1 := if_pos q
      have e3 : zdp ac (k :: L) (k / 4) = zdp ac L (k / 4) := if_neg ne
      rw [e1, e2, e3]
      exact ⟨zin_c h3, rfl, k, List.mem_cons_self, q.symm, rfl⟩
    · rw [Bool.or_eq_true] at h'
      have hL : zin ac r L f = true := by
        rcases h' with w | w
        · exact absurd (of_decide_eq_true w) q
        · exact w
      obtain ⟨i1, i2, k', i3, i4, i5⟩ := zpar_p h5 hL hr
      have e1 : zpar ac (k :: L) f = zpar ac L f := if_neg q
      have e2 : zdp ac (k :: L) f = zdp ac L f := if_neg q
      have ne2 : zpar ac L f ≠ ac k / 4 := fun w => by rw [← w, i1] at h4; cases h4
      have e3 : zdp ac (k :: L) (zpar ac L f) = zdp ac L (zpar ac L f) := if_neg ne2
      rw [e1, e2, e3]
      exact ⟨zin_c i1, i2, k', List.mem_cons_of_mem _ i3, i4, i5⟩
theorem zpar_r : ∀ {L : List Int}, zTr F ac ed H r L → zpar ac L r = -1 ∧ zdp ac L r = 0
  | [], _ => ⟨rfl, rfl⟩
  | k :: L, ht => by
    obtain ⟨⟨h1, h2, h3, h4⟩, h5⟩ := ht
    have ne : r ≠ ac k / 4 := fun w => by rw [← w, zin_r] at h4; cases h4
    have e1 : zpar ac (k :: L) r = zpar ac L r := if_neg ne
    have e2 : zdp ac (k :: L) r = zdp ac L r := if_neg ne
    rw [e1, e2]
    exact zpar_r h5
theorem zdp_r (ht : zTr F ac ed H r L) (hf : zin ac r L f = true) (h0 : zdp ac L f = 0) : f = r := by
  by_cases q : f = r
  · exact q
  · have := (zpar_p ht hf q).2.1
    have := (zdp_b (ac := ac) (L := L) (f := zpar ac L f)).1
    omega
theorem zanc_p (ht : zTr F ac ed H r L) (hf : zin ac r L f = true) : ∀ n : Nat, (n : Int) ≤ zdp ac L f → zin ac r L (zanc ac L f n) = true ∧ zdp ac L (zanc ac L f n) = zdp ac L f - n := by
  intro n
  induction n with
  | zero => exact fun _ => ⟨hf, by show zdp ac L f = zdp ac L f - 0; omega⟩
  | succ n ih =>
    intro h
    obtain ⟨i1, i2⟩ := ih (by omega)
    have ne : zanc ac L f n ≠ r := fun w => by
      rw [w, (zpar_r ht).2] at i2
      omega
    obtain ⟨j1, j2, _⟩ := zpar_p ht i1 ne
    refine ⟨j1, ?_⟩
    show zdp ac L (zpar ac L (zanc ac L f n)) = _
    omega
theorem zPC_par {m : z_Mem} {v : Int} (hm : zPC μ m ac r L v) (ht : zTr F ac ed H r L) (hf : zin ac r L f = true) : m 18 f = zpar ac L f := by
  by_cases q : f = r
  · rw [q, (zpar_r ht).1]
    exact hm.2.2.1.1
  · obtain ⟨_, _, k, k1, k2, k3⟩ := zpar_p ht hf q
    have := hm.2.2.1.2 k k1
    rw [k2] at this
    rw [this]
    exact k3
theorem e_way (hv : zV p) (hc : zCn' μ p) (hk : ∀ m, (∀ o i, o ≠ 17 → o ≠ 18 → m o i = μ o i) → K (zaY p a b c) m) : z_ci m_X11_way [(2, 1), (0, a), (0, b), (0, c)] μ (d + 8) K := by
  have sk := zV_sk hv
  have F0 : 0 ≤ pF p ∧ pF p ≤ 30 := sk.1
  have G : zGc μ (pF p) (pa p) (pe p) (pq p) := zCK_G hc.1
  have hk0 := hk μ (fun _ _ _ _ => rfl)
  unfold zaY at hk hk0
  refine V_X11_way (e_isFace (fun q => ?_) (fun q => ?_))
  · rw [G.1] at q
    rw [if_neg (fun w => q w.1)] at hk0
    exact zy0' hk0
  · rw [G.1] at q
    refine zy1' (e_isFace (fun q2 => ?_) (fun q2 => ?_))
    · rw [G.1] at q2
      rw [if_neg (fun w => q2 w.2.1)] at hk0
      exact zy0' hk0
    · rw [G.1] at q2
      refine zy1' ⟨fun q3 => ?_, fun q3 => ?_⟩
      · have ht : zTr (pF p) (pa p) (pe p) (pH p) b (pBo p b) := zBF_tr (H := pH p) sk q2
        have ln := zTr_le sk q2 ht
        have ln' : ((pBo p b).length : Int) + 1 ≤ pF p := ln
        refine V_X9_walkBack (e_isJoined sk G hc.2.1.1 q2 q (fun m v hm hj => zy1 ⟨(by first | omega | exact ⟨by omega, by omega⟩), ?_⟩) (fun m v hm hj => zy0 ?_))
        · have hin : zin (pa p) b (pBo p b) a = true := (zBF_J sk q2).mpr hj
          have hk := hk m hm.1
          rw [if_pos ⟨q, q2, by omega⟩, if_pos hin] at hk
          have db := zdp_b (ac := pa p) (L := pBo p b) (f := a)
          have par : ∀ f, zin (pa p) b (pBo p b) f = true → m 18 f = zpar (pa p) (pBo p b) f := fun f hf => zPC_par hm ht hf
          have key : ∀ i : Int, 0 ≤ i → i ≤ zdp (pa p) (pBo p b) a → z_ri m_X9_walkBack 23 [some (2, 6), none, none, none, none, some (0, i), some (0, zpar (pa p) (pBo p b) (zanc (pa p) (pBo p b) a i.toNat))] m (d + 7) (fun x15 m13 => (¬x15 = -1 → (¬c = -1 → (c ≤ x15 → z_ci m_X9_faceOnWay [(2, 6), (0, a), (0, c)] m13 (d + 7) fun x24 m22 => K x24 m22) ∧ (x15 < c → K (-2) m13)) ∧ (c = -1 → K x15 m13)) ∧ (x15 = -1 → K (-3) m13)) := by
            refine z_up (fun i i0 i1 ih => V_X9_walkBack_23 ?_)
            obtain ⟨a1, a2⟩ := zanc_p ht hin i.toNat (by omega)
            have fr := zTr_in sk q2 ht a1
            refine ⟨fun w => ?_, fun w => ⟨fun w2 => by omega, fun w2 => ?_⟩⟩
            · have er : zanc (pa p) (pBo p b) a i.toNat = b := by
                by_cases x : zanc (pa p) (pBo p b) a i.toNat = b
                · exact x
                · have := (zpar_p ht a1 x).1
                  rw [w] at this
                  have := zTr_in sk q2 ht this
                  omega
              rw [er, (zpar_r ht).2] at a2
              have ei : i = zdp (pa p) (pBo p b) a := by omega
              refine ⟨fun _ => ⟨fun w3 => ⟨fun w4 => ?_, fun w4 => ?_⟩, fun w3 => ?_⟩, fun w3 => by omega⟩
              · rw [if_neg w3, if_neg (by omega)] at hk
                have key2 : ∀ j : Int, 0 ≤ j → j ≤ c → z_ri m_X9_faceOnWay 5 [some (2, 6), none, some (0, c), some (0, zanc (pa p) (pBo p b) a j.toNat), some (0, j)] m (d + 7) (fun x24 m22 => K x24 m22) := by
                  refine z_up (fun j j0 j1 ih2 => V_X9_faceOnWay_5 ?_)
                  obtain ⟨c1, c2⟩ := zanc_p ht hin j.toNat (by omega)
                  have fr2 := zTr_in sk q2 ht c1
                  refine ⟨fun w5 => ?_, fun w5 => ⟨fun w6 => by omega, fun w6 => ⟨(by first | omega | exact ⟨by omega, by omega⟩), (by first | omega | exact ⟨by omega, by omega⟩), ?_⟩⟩⟩
                  · obtain rfl : j = c := by omega
                    exact hk
                  · have := ih2 w5
                    rw [show (j + 1).toNat = j.toNat + 1 by omega] at this
                    rw [par _ c1]
                    exact this
                exact V_X9_faceOnWay (key2 0 (by omega) (by omega))
              · rw [if_neg w3, if_pos (by omega)] at hk
                exact hk
              · rw [if_pos w3, ← ei] at hk
                exact hk
            · have nr : zanc (pa p) (pBo p b) a i.toNat ≠ b := fun x => by
                rw [x, (zpar_r ht).1] at w
                exact w rfl
              obtain ⟨d1, d2, _⟩ := zpar_p ht a1 nr
              have db2 := zdp_b (ac := pa p) (L := pBo p b) (f := zpar (pa p) (pBo p b) (zanc (pa p) (pBo p b) a i.toNat))
              have fr2 := zTr_in sk q2 ht d1
              have := ih (by omega)
              rw [show (i + 1).toNat = i.toNat + 1 by omega] at this
              rw [par _ d1]
              exact ⟨(by first | omega | exact ⟨by omega, by omega⟩), (by first | omega | exact ⟨by omega, by omega⟩), this⟩
          have := key 0 (by omega) (by omega)
          rw [par a hin]
          exact this
        · have nin : ¬ zin (pa p) b (pBo p b) a = true := fun w => hj ((zBF_J sk q2).mp w)
          have hk := hk m hm.1
          rw [if_pos ⟨q, q2, by omega⟩, if_neg nin] at hk
          exact ⟨fun w => absurd rfl w, fun _ => hk⟩
      · rw [if_neg (fun w => w.2.2 q3)] at hk0
        exact hk0
theorem e12_way (hv : zV p) (hc : zMn' μ p) (hk : ∀ m, (∀ o i, o ≠ 130 → o ≠ 131 → o ≠ 132 → m o i = μ o i) → K (zaY p a b c) m) : z_ci m_X12_way [(2, 113), (0, a), (0, b), (0, c)] μ (d + 8) K := by
  have sk := zV_sk hv
  have F0 : 0 ≤ pF p ∧ pF p ≤ 30 := sk.1
  have G : zGm μ (pF p) (pa p) (pe p) (pq p) := zMK_G hc.1
  have hk0 := hk μ (fun _ _ _ _ _ => rfl)
  unfold zaY at hk hk0
  refine V_X12_way (e12_isFace ⟨by rw [G.1]; omega, by rw [G.1]; omega⟩ (fun q => ?_) (fun q => ?_))
  · rw [G.1] at q
    rw [if_neg (fun w => q w.1)] at hk0
    exact zy0' hk0
  · rw [G.1] at q
    refine zy1' (e12_isFace ⟨by rw [G.1]; omega, by rw [G.1]; omega⟩ (fun q2 => ?_) (fun q2 => ?_))
    · rw [G.1] at q2
      rw [if_neg (fun w => q2 w.2.1)] at hk0
      exact zy0' hk0
    · rw [G.1] at q2
      refine zy1' ⟨fun q3 => ?_, fun q3 => ?_⟩
      · have ht : zTr (pF p) (pa p) (pe p) (pH p) b (pBo p b) := zBF_tr (H := pH p) sk q2
        have ln := zTr_le sk q2 ht
        have ln' : ((pBo p b).length : Int) + 1 ≤ pF p := ln
        refine e12_areJoined sk G (zRwM_H hc.2) q2 q (fun m hm hj => zy1 ?_) (fun m hm hj => zy0 ?_)
        · have hin : zin (pa p) b (pBo p b) a = true := (zBF_J sk q2).mpr hj
          have hk := hk m hm.1
          rw [if_pos ⟨q, q2, by omega⟩, if_pos hin] at hk
          have db := zdp_b (ac := pa p) (L := pBo p b) (f := a)
          have key : ∀ i : Int, 0 ≤ i → i ≤ zdp (pa p) (pBo p b) a → (c < 0 ∨ i ≤ c) → z_ri m_X12_way 41 [some (2, 113), none, some (0, b), some (0, c), some (0, i), some (0, zanc (pa p) (pBo p b) a i.toNat)] m (d + 8) K := by
            refine z_up (fun i i0 i1 ih hic => V_X12_way_41 ?_)
            obtain ⟨a1, a2⟩ := zanc_p ht hin i.toNat (by omega)
            have fr := zTr_in sk q2 ht a1
            refine ⟨fun w => ?_, fun w => ⟨fun w2 => ⟨fun w3 => ⟨fun w4 => by omega, fun w4 => ?_⟩, fun w3 => by omega⟩, fun w2 => ?_⟩⟩
            · rw [w, (zpar_r ht).2] at a2
              have ei : i = zdp (pa p) (pBo p b) a := by omega
              refine ⟨fun w3 => ⟨fun w4 => ?_, fun w4 => ?_⟩, fun w3 => ?_⟩
              · rw [if_neg w3, if_pos (by omega)] at hk
                exact hk
              · rw [if_neg w3, if_neg (by omega), ← w4] at hk
                exact hk
              · rw [if_pos w3, ← ei] at hk
                exact hk
            · rw [if_neg w3, if_neg (by omega), ← w4] at hk
              exact hk
            · obtain ⟨d1, d2, k', k1, k2, k3⟩ := zpar_p ht a1 w
              have db2 := zdp_b (ac := pa p) (L := pBo p b) (f := zpar (pa p) (pBo p b) (zanc (pa p) (pBo p b) a i.toNat))
              have e132 : m 132 (zanc (pa p) (pBo p b) a i.toNat) = k' := by
                have := hm.2.2.1.2 k' k1
                rw [k2] at this
                exact this
              have fr2 := zTr_in sk q2 ht d1
              have := ih (by omega) (by omega)
              rw [show (i + 1).toNat = i.toNat + 1 by omega] at this
              rw [e132, k3]
              exact ⟨(by first | omega | exact ⟨by omega, by omega⟩), (by first | omega | exact ⟨by omega, by omega⟩), (by first | omega | exact ⟨by omega, by omega⟩), this⟩
          exact key 0 (by omega) (by omega) (by omega)
        · have nin : ¬ zin (pa p) b (pBo p b) a = true := fun w => hj ((zBF_J sk q2).mp w)
          have hk := hk m hm.1
          rw [if_pos ⟨q, q2, by omega⟩, if_neg nin] at hk
          exact hk
      · rw [if_neg (fun w => w.2.2 q3)] at hk0
        exact hk0
/-! count -/
noncomputable def zaN (p : zP) (k L g0 g1 a : Int) : Int := if a = 0 then pn p else if a = 1 then pF p else if a = 2 then 2 * pF p else if a = 3 then zVs (pS p) (pn p) else if a = 4 then zhm (pH p) else if a = 5 then pr p else if a = 6 then zN (pF p).toNat (zPl p) else if a = 7 then k else if a = 8 then L else if a = 9 then g0 + 2 * g1 else if a = 10 then 2 * pF p - zhm (pH p) - zN (2 * pF p).toNat (zfre p) else -1
theorem zfre_b (hv : zV p) : 0 ≤ zhm (pH p) ∧ 0 ≤ zN (2 * pF p).toNat (zfre p) ∧ zN (2 * pF p).toNat (fun e => !pH p e && !zfre p e) = 2 * pF p - zhm (pH p) - zN (2 * pF p).toNat (zfre p) := by
  have F0 : 0 ≤ pF p ∧ pF p ≤ 30 := (zV_sk hv).1
  refine ⟨(zN_r _).1, (zN_r _).1, ?_⟩
  rw [zhm_eq hv]
  have e1 : zN (2 * pF p).toNat (pH p) + zN (2 * pF p).toNat (zfre p) + zN (2 * pF p).toNat (fun e => !pH p e && !zfre p e) = 2 * pF p := by
    unfold zN
    rw [← zS_add, ← zS_add]
    have : zS (2 * pF p).toNat (fun i => zi (pH p i) + zi (zfre p i) + zi (!pH p i && !zfre p i)) = zS (2 * pF p).toNat (fun _ => 1) := zS_eq _ (fun e e0 e1 => by
      show zi (pH p e) + zi (zfre p e) + zi (!pH p e && !zfre p e) = 1
      cases hz : pH p e with
      | true =>
        have : zfre p e = false := by
          unfold zfre
          rw [hz]
          rfl
        rw [this]
        rfl
      | false => cases zfre p e <;> rfl)
    rw [this, zS_const]
    omega
  unfold zHn
  omega
theorem e_count {k L g0 g1 : Int} (hv : zV p) (hc : zCn' μ p) (h80 : μ 80 0 = k) (hL : μ 1 1 = L) (hg0 : μ 103 0 = g0) (hg1 : μ 108 0 = g1) (b0 : g0 = 0 ∨ g0 = 1) (b1 : g1 = 0 ∨ g1 = 1) (hk : K (zaN p k L g0 g1 a) μ) : z_ci m_X11_count [(2, 1), (0, a)] μ (d + 8) K := by
  have sk := zV_sk hv
  have F0 : 0 ≤ pF p ∧ pF p ≤ 30 := sk.1
  have G : zGc μ (pF p) (pa p) (pe p) (pq p) := zCK_G hc.1
  obtain ⟨Q, n6⟩ := zCn_Q hv hc
  obtain ⟨z1, z2, z3⟩ := zfre_b hv
  unfold zaN at hk
  refine V_X11_count ⟨fun q => ?_, fun q => ?_, fun q => ?_, fun q => ?_, fun q => ?_, fun q => ?_, fun q => ?_, fun q => ?_, fun q => ?_, fun q => ?_, fun q => ?_, fun q => ?_⟩
  · rw [if_pos q, ← (show μ 6 0 = pn p from hc.1.1.1)] at hk
    exact hk
  · rw [if_neg (by omega), if_pos q, ← G.1] at hk
    exact hk
  · rw [if_neg (by omega), if_neg (by omega), if_pos q, ← G.2.1] at hk
    exact hk
  · rw [if_neg (by omega), if_neg (by omega), if_neg (by omega), if_pos q, ← (show μ 6 11 = zVs (pS p) (pn p) from hc.1.2.2.2.2.1)] at hk
    exact hk
  · rw [if_neg (by omega), if_neg (by omega), if_neg (by omega), if_neg (by omega), if_pos q] at hk
    exact e_howMany zkd21 hc.2.1.1 hk
  · rw [if_neg (by omega), if_neg (by omega), if_neg (by omega), if_neg (by omega), if_neg (by omega), if_pos q, ← hc.2.1.2.1] at hk
    exact hk
  · rw [if_neg (by omega), if_neg (by omega), if_neg (by omega), if_neg (by omega), if_neg (by omega), if_neg (by omega), if_pos q, ← n6] at hk
    exact hk
  · rw [if_neg (by omega), if_neg (by omega), if_neg (by omega), if_neg (by omega), if_neg (by omega), if_neg (by omega), if_neg (by omega), if_pos q, ← h80] at hk
    exact hk
  · rw [if_neg (by omega), if_neg (by omega), if_neg (by omega), if_neg (by omega), if_neg (by omega), if_neg (by omega), if_neg (by omega), if_neg (by omega), if_pos q, ← hL] at hk
    exact hk
  · rw [if_neg (by omega), if_neg (by omega), if_neg (by omega), if_neg (by omega), if_neg (by omega), if_neg (by omega), if_neg (by omega), if_neg (by omega), if_neg (by omega), if_pos q] at hk
    have e0 : μ (103 + 5 * 0) 0 = g0 := hg0
    have e1 : μ (103 + 5 * (0 + 1)) 0 = g1 := hg1
    have fin : ∀ v w : Int, w = v → v = g0 + 2 * g1 → z_ri m_X11_keptBits 4 [some (2, 1), some (0, w), some (0, 0 + 1 + 1)] μ (d + 7) (fun x10 m8 => K x10 m8) := fun v w hw h => V_X11_keptBits_4 ⟨fun _ => by rw [hw, h]; exact hk, fun x => by omega⟩
    refine V_X11_keptBits (V_X11_keptBits_4 ⟨fun x => by omega, fun _ => ⟨(by first | omega | exact ⟨by omega, by omega⟩), ?_⟩⟩)
    rw [e0]
    rcases b0 with h0 | h0
    · rw [h0]
      refine ⟨fun _ => ⟨(by first | omega | exact ⟨by omega, by omega⟩), V_X11_keptBits_4 ⟨fun x => by omega, fun _ => ⟨(by first | omega | exact ⟨by omega, by omega⟩), ?_⟩⟩⟩, fun x => absurd rfl x⟩
      rw [e1]
      rcases b1 with h1 | h1
      · rw [h1]
        exact ⟨fun _ => ⟨(by first | omega | exact ⟨by omega, by omega⟩), fin 0 _ rfl (by omega)⟩, fun x => absurd rfl x⟩
      · rw [h1]
        exact ⟨fun x => absurd x (by decide), fun _ => ⟨(by first | omega | exact ⟨by omega, by omega⟩), ⟨by decide, by decide⟩, (by first | omega | exact ⟨by omega, by omega⟩), fin 2 _ (by decide) (by omega)⟩⟩
    · rw [h0]
      refine ⟨fun x => absurd x (by decide), fun _ => ⟨(by first | omega | exact ⟨by omega, by omega⟩), ⟨by decide, by decide⟩, (by first | omega | exact ⟨by omega, by omega⟩), V_X11_keptBits_4 ⟨fun x => by omega, fun _ => ⟨(by first | omega | exact ⟨by omega, by omega⟩), ?_⟩⟩⟩⟩
      rw [e1]
      rcases b1 with h1 | h1
      · rw [h1]
        exact ⟨fun _ => ⟨(by first | omega | exact ⟨by omega, by omega⟩), fin 1 _ (by decide) (by omega)⟩, fun x => absurd rfl x⟩
      · rw [h1]
        exact ⟨fun x => absurd x (by decide), fun _ => ⟨(by first | omega | exact ⟨by omega, by omega⟩), ⟨by decide, by decide⟩, (by first | omega | exact ⟨by omega, by omega⟩), fin 3 _ (by decide) (by omega)⟩⟩
  · rw [if_neg (by omega), if_neg (by omega), if_neg (by omega), if_neg (by omega), if_neg (by omega), if_neg (by omega), if_neg (by omega), if_neg (by omega), if_neg (by omega), if_neg (by omega), if_pos q] at hk
    have zb := (zN_r (P := pH p) 60).2
    have zb' : zhm (pH p) ≤ 60 := zb
    have zr := (zN_r (P := zfre p) (2 * pF p).toNat).2
    refine e_howMany zkd21 hc.2.1.1 ?_
    rw [G.2.1]
    refine ⟨(by first | omega | exact ⟨by omega, by omega⟩), e_free hv hc ?_⟩
    have e : zaR p (-1) = zN (2 * pF p).toNat (zfre p) := by
      unfold zaR
      rw [if_neg (by decide), if_pos rfl]
    rw [e]
    exact ⟨(by first | omega | exact ⟨by omega, by omega⟩), hk⟩
  · rw [if_neg (by omega), if_neg (by omega), if_neg (by omega), if_neg (by omega), if_neg (by omega), if_neg (by omega), if_neg (by omega), if_neg (by omega), if_neg (by omega), if_neg (by omega), if_neg (by omega)] at hk
    exact hk
theorem e12_count {k L g0 g1 : Int} (hv : zV p) (hc : zMn' μ p) (h80 : μ 113 6 = k) (hL : μ 113 8 = L) (hg0 : μ 119 0 = g0) (hg1 : μ 119 1 = g1) (b0 : g0 = 0 ∨ g0 = 1) (b1 : g1 = 0 ∨ g1 = 1) (hk : ∀ m, (∀ o i, (o < 130 ∨ 132 < o) → (o < 135 ∨ 137 < o) → m o i = μ o i) → K (zaN p k L g0 g1 a) m) : z_ci m_X12_count [(2, 113), (0, a)] μ (d + 8) K := by
  have sk := zV_sk hv
  have F0 : 0 ≤ pF p ∧ pF p ≤ 30 := sk.1
  have G : zGm μ (pF p) (pa p) (pe p) (pq p) := zMK_G hc.1
  obtain ⟨z1, z2, z3⟩ := zfre_b hv
  have hk0 := hk μ (fun _ _ _ _ => rfl)
  unfold zaN at hk hk0
  refine V_X12_count ⟨fun q => ?_, fun q => ?_, fun q => ?_, fun q => ?_, fun q => ?_, fun q => ?_, fun q => ?_, fun q => ?_, fun q => ?_, fun q => ?_, fun q => ?_, fun q => ?_⟩
  · rw [if_pos q, ← (show μ 114 0 = pn p from hc.2.1)] at hk0
    exact hk0
  · rw [if_neg (by omega), if_pos q, ← G.1] at hk0
    exact hk0
  · rw [if_neg (by omega), if_neg (by omega), if_pos q, ← G.2.1] at hk0
    exact hk0
  · rw [if_neg (by omega), if_neg (by omega), if_neg (by omega), if_pos q, ← (show μ 113 23 = zVs (pS p) (pn p) from hc.1.2.2.2.2.1)] at hk0
    exact hk0
  · rw [if_neg (by omega), if_neg (by omega), if_neg (by omega), if_neg (by omega), if_pos q, zhm_eq hv] at hk0
    exact e12_hinges F0 G.2.1 (zRwM_H hc.2) hk0
  · rw [if_neg (by omega), if_neg (by omega), if_neg (by omega), if_neg (by omega), if_neg (by omega), if_pos q, ← zRwM_r hc.2] at hk0
    exact hk0
  · rw [if_neg (by omega), if_neg (by omega), if_neg (by omega), if_neg (by omega), if_neg (by omega), if_neg (by omega), if_pos q] at hk
    exact e12_placed hv hc (fun m fm qm => hk m fm)
  · rw [if_neg (by omega), if_neg (by omega), if_neg (by omega), if_neg (by omega), if_neg (by omega), if_neg (by omega), if_neg (by omega), if_pos q, ← h80] at hk0
    exact hk0
  · rw [if_neg (by omega), if_neg (by omega), if_neg (by omega), if_neg (by omega), if_neg (by omega), if_neg (by omega), if_neg (by omega), if_neg (by omega), if_pos q, ← hL] at hk0
    exact hk0
  · rw [if_neg (by omega), if_neg (by omega), if_neg (by omega), if_neg (by omega), if_neg (by omega), if_neg (by omega), if_neg (by omega), if_neg (by omega), if_neg (by omega), if_pos q] at hk0
    have fin : ∀ x y : Int, (x = 0 ∨ x = 1) → (y = 0 ∨ y = 1) → x = g0 → y = g1 → (z_I (y * 2 ^ (1 : Int).toNat) ∧ (0 ≤ x ∧ 0 ≤ y * 2 ^ (1 : Int).toNat) ∧ K ((x.toNat ||| (y * 2 ^ (1 : Int).toNat : Int).toNat : Nat) : Int) μ) := fun x y hx hy ex ey => by
      have t1 : (2 : Int) ^ (1 : Int).toNat = 2 := by decide
      rw [t1]
      rw [← ex, ← ey] at hk0
      rcases hx with rfl | rfl <;> rcases hy with rfl | rfl <;> exact ⟨⟨by decide, by decide⟩, ⟨by decide, by decide⟩, hk0⟩
    rw [hg0]
    refine e_truth (fun w => ?_) (fun w => ?_)
    · rw [hg1]
      refine e_truth (fun w2 => ?_) (fun w2 => ?_)
      · exact fin 0 0 (by omega) (by omega) (by omega) (by omega)
      · exact fin 0 1 (by omega) (by omega) (by omega) (by omega)
    · rw [hg1]
      refine e_truth (fun w2 => ?_) (fun w2 => ?_)
      · exact fin 1 0 (by omega) (by omega) (by omega) (by omega)
      · exact fin 1 1 (by omega) (by omega) (by omega) (by omega)
  · rw [if_neg (by omega), if_neg (by omega), if_neg (by omega), if_neg (by omega), if_neg (by omega), if_neg (by omega), if_neg (by omega), if_neg (by omega), if_neg (by omega), if_neg (by omega), if_pos q, ← z3] at hk
    refine V_X12_unfree (e12_placed hv hc (fun m fm qm => ?_))
    have hk := hk m fm
    have hc' : zMn' m p := zMn_fr hc hv.1 (fun x i w => fm x i (by omega) (by omega))
    have G' : zGm m (pF p) (pa p) (pe p) (pq p) := zMK_G hc'.1
    have key : ∀ e : Int, 0 ≤ e → e ≤ 2 * pF p → z_ri m_X12_unfree 9 [some (2, 113), some (0, zN e.toNat (fun e => !pH p e && !zfre p e)), some (0, e)] m (d + 7) (fun x19 m17 => K x19 m17) := by
      refine z_up (fun e e0 e1 ih => V_X12_unfree_9 ?_)
      rw [G'.2.1]
      have zr := zN_r (P := fun e => !pH p e && !zfre p e) e.toNat
      refine ⟨fun w => ?_, fun w => ?_⟩
      · obtain rfl : e = 2 * pF p := by omega
        exact hk
      · have nx := ih w
        rw [zN_up e0] at nx
        refine e12_isHinge (zRwM_H hc'.2) (by omega) (fun hz => zy1 (e_truth (fun _ => ⟨(by first | omega | exact ⟨by omega, by omega⟩), (by first | omega | exact ⟨by omega, by omega⟩), ?_⟩) (fun x => absurd rfl x))) (fun hz => zy0 ?_)
        · rw [hz] at nx
          exact nx
        · rw [hz] at nx
          refine e12_isFree hv hc' qm ⟨e0, w⟩ (fun hf => zy1 (e_truth (fun _ => ⟨(by first | omega | exact ⟨by omega, by omega⟩), (by first | omega | exact ⟨by omega, by omega⟩), ?_⟩) (fun x => absurd rfl x))) (fun hf => zy0 (e_truth (fun x => absurd x (by decide)) (fun _ => ⟨(by first | omega | exact ⟨by omega, by omega⟩), (by first | omega | exact ⟨by omega, by omega⟩), ?_⟩)))
          · rw [hf] at nx
            exact nx
          · rw [hf] at nx
            exact nx
    exact key 0 (by omega) (by omega)
  · rw [if_neg (by omega), if_neg (by omega), if_neg (by omega), if_neg (by omega), if_neg (by omega), if_neg (by omega), if_neg (by omega), if_neg (by omega), if_neg (by omega), if_neg (by omega), if_neg (by omega)] at hk0
    exact hk0
end WY

/-! where the squares lie, told once -/
def zpo (ac : Int → Int) : List Int → Int → Int × Int × Int
  | [], _ => (0, 0, 0)
  | k :: L, f => if f = ac k / 4 then ((zpo ac L (k / 4)).1 + zsx ((k + (zpo ac L (k / 4)).2.2) % 4), (zpo ac L (k / 4)).2.1 + zsy ((k + (zpo ac L (k / 4)).2.2) % 4), ((k + (zpo ac L (k / 4)).2.2) % 4 + 2 - ac k % 4) % 4) else zpo ac L f
abbrev pB (p : zP) : List Int := zBF (pa p) (pe p) (pH p) (pr p)
def zPl (p : zP) (f : Int) : Bool := decide (0 < pF p) && zin (pa p) (pr p) (pB p) f
def zX (p : zP) (f : Int) : Int := (zpo (pa p) (pB p) f).1
def zY (p : zP) (f : Int) : Int := (zpo (pa p) (pB p) f).2.1
def zT (p : zP) (f : Int) : Int := (zpo (pa p) (pB p) f).2.2
section LK
variable {a b c k v r f : Int} {p : zP} {L : List Int} {ac ed es X Y T : Int → Int} {F : Int} {H : Int → Bool} {μ μ0 : z_Mem} {d : Nat} {K : Int → z_Mem → Prop} {Kn : z_Mem → Prop}
theorem zLy_po : ∀ {L : List Int}, zTr F ac ed H r L → zLy ac r X Y T L → ∀ f, zin ac r L f = true → X f = (zpo ac L f).1 ∧ Y f = (zpo ac L f).2.1 ∧ T f = (zpo ac L f).2.2
  | [], _, h, f, hf => by
    have : f = r := of_decide_eq_true hf
    subst this
    exact h
  | k :: L, ht, h, f, hf => by
    obtain ⟨⟨h1, h2, h3, h4⟩, h5⟩ := ht
    have hf' : (decide (f = ac k / 4) || zin ac r L f) = true := hf
    rw [Bool.or_eq_true] at hf'
    by_cases q : f = ac k / 4
    · subst q
      obtain ⟨b1, b2, b3⟩ := zLy_po h5 h.2 (k / 4) h3
      have e : zpo ac (k :: L) (ac k / 4) = ((zpo ac L (k / 4)).1 + zsx ((k + (zpo ac L (k / 4)).2.2) % 4), (zpo ac L (k / 4)).2.1 + zsy ((k + (zpo ac L (k / 4)).2.2) % 4), ((k + (zpo ac L (k / 4)).2.2) % 4 + 2 - ac k % 4) % 4) := if_pos rfl
      rw [e, ← b1, ← b2, ← b3]
      exact h.1
    · have e : zpo ac (k :: L) f = zpo ac L f := if_neg q
      rw [e]
      rcases hf' with w | w
      · exact absurd (of_decide_eq_true w) q
      · exact zLy_po h5 h.2 f w
theorem zPl_in (hv : zV p) (h : zPl p f = true) : (0 ≤ f ∧ f < pF p) ∧ (0 ≤ pr p ∧ pr p < pF p) ∧ zin (pa p) (pr p) (pB p) f = true := by
  unfold zPl at h
  rw [Bool.and_eq_true] at h
  have hF : 0 < pF p := of_decide_eq_true h.1
  have hr : 0 ≤ pr p ∧ pr p < pF p := by
    have := hv.2.2.2.2.2.1
    omega
  exact ⟨zTr_in (zV_sk hv) hr (zBF_tr (zV_sk hv) hr) h.2, hr, h.2⟩
theorem zPl_e (hF : 0 < pF p) : zPl p f = zin (pa p) (pr p) (pB p) f := by
  unfold zPl
  rw [decide_eq_true hF]
  rfl
theorem zPl_J (hv : zV p) (hf : 0 ≤ f ∧ f < pF p) : zPl p f = true ↔ zJ (pF p) (pa p) (pe p) (pH p) (pr p) f := by
  have hr : 0 ≤ pr p ∧ pr p < pF p := by
    have := hv.2.2.2.2.2.1
    omega
  rw [zPl_e (by omega)]
  exact zBF_J (zV_sk hv) hr
/-- the class's plane -/
def zQC (m : z_Mem) (p : zP) : Prop := (0 ≤ m 23 5 ∧ m 23 5 < ((2 ^ 30 : Nat) : Int)) ∧ (∀ f, 0 ≤ f → zbt (m 23 5) f = zPl p f) ∧ ∀ f, zPl p f = true → m 24 f = zX p f ∧ m 25 f = zY p f ∧ m 26 f = zT p f
theorem zpo_b (hv : zV p) (h : zPl p f = true) : (-29 ≤ zX p f ∧ zX p f ≤ 29) ∧ (-29 ≤ zY p f ∧ zY p f ≤ 29) ∧ 0 ≤ zT p f ∧ zT p f < 4 := by
  obtain ⟨h1, h2, h3⟩ := zPl_in hv h
  have sk := zV_sk hv
  have tr := zBF_tr (H := pH p) sk h2
  have F0 : pF p ≤ 30 := sk.1.2
  have ln := zTr_le sk h2 tr
  have key : ∀ {L : List Int} (f : Int), (-(L.length : Int) ≤ (zpo (pa p) L f).1 ∧ (zpo (pa p) L f).1 ≤ L.length) ∧ (-(L.length : Int) ≤ (zpo (pa p) L f).2.1 ∧ (zpo (pa p) L f).2.1 ≤ L.length) ∧ 0 ≤ (zpo (pa p) L f).2.2 ∧ (zpo (pa p) L f).2.2 < 4 := by
    intro L
    induction L with
    | nil =>
      intro f
      show (-(0 : Int) ≤ 0 ∧ (0 : Int) ≤ 0) ∧ (-(0 : Int) ≤ 0 ∧ (0 : Int) ≤ 0) ∧ (0 : Int) ≤ 0 ∧ (0 : Int) < 4
      decide
    | cons k L ih =>
      intro f
      rw [List.length_cons]
      by_cases q : f = pa p k / 4
      · have e : zpo (pa p) (k :: L) f = ((zpo (pa p) L (k / 4)).1 + zsx ((k + (zpo (pa p) L (k / 4)).2.2) % 4), (zpo (pa p) L (k / 4)).2.1 + zsy ((k + (zpo (pa p) L (k / 4)).2.2) % 4), ((k + (zpo (pa p) L (k / 4)).2.2) % 4 + 2 - pa p k % 4) % 4) := if_pos q
        rw [e]
        have i1 := ih (k / 4)
        have x := zsx_r ((k + (zpo (pa p) L (k / 4)).2.2) % 4)
        have y := zsy_r ((k + (zpo (pa p) L (k / 4)).2.2) % 4)
        refine ⟨⟨?_, ?_⟩, ⟨?_, ?_⟩, ?_, ?_⟩
        · show _ ≤ _ + zsx _
          omega
        · show _ + zsx _ ≤ _
          omega
        · show _ ≤ _ + zsy _
          omega
        · show _ + zsy _ ≤ _
          omega
        · show 0 ≤ _ % 4
          omega
        · show _ % 4 < 4
          omega
      · have e : zpo (pa p) (k :: L) f = zpo (pa p) L f := if_neg q
        rw [e]
        have := ih f
        omega
  have := key (L := pB p) f
  unfold zX zY zT
  have ln' : ((pB p).length : Int) + 1 ≤ pF p := ln
  omega
theorem zCn_Q (hv : zV p) (hc : zCn' μ p) : zQC μ p ∧ μ 23 6 = zN (pF p).toNat (zPl p) := by
  have sk := zV_sk hv
  rcases hc.2.2 with ⟨h1, h2, h3⟩ | ⟨h1, h2⟩
  · have np : ∀ f, zPl p f = false := fun f => by
      unfold zPl
      rw [decide_eq_false (by omega)]
      rfl
    refine ⟨⟨?_, fun f f0 => ?_, fun f hf => ?_⟩, ?_⟩
    · rw [h2]
      exact ⟨by decide, by decide⟩
    · rw [h2, np]
      exact zbt_0
    · rw [np] at hf
      cases hf
    · rw [h3, h1]
      rfl
  · have hF : 0 < pF p := by omega
    have tr := zBF_tr (H := pH p) sk h1
    refine ⟨⟨h2.2.1.1, fun f f0 => ?_, fun f hf => ?_⟩, ?_⟩
    · rw [zPl_e hF]
      exact h2.2.1.2 f f0
    · rw [zPl_e hF] at hf
      exact zLy_po tr h2.2.2.2.2 f hf
    · rw [h2.1, ← zTr_n sk h1 tr]
      exact zN_eq _ (fun f f0 f1 => (zPl_e hF).symm)
theorem e_held (hq : zQC μ p) (ha : 0 ≤ a ∧ a < 32) (hy : zPl p a = true → K 1 μ) (hn : zPl p a = false → K 0 μ) : z_ci m_X6_holds [(2, 23), (0, a)] μ d K := by
  refine V_X6_holds (by decide +kernel) ⟨by omega, hq.1.1, ?_⟩
  rw [zbt_z hq.1.1, hq.2.1 a ha.1]
  cases hz : zPl p a with
  | true => exact ⟨fun q => (by cases q), fun _ => hy hz⟩
  | false => exact ⟨fun _ => hn hz, fun q => absurd rfl q⟩
/-- the reference's plane, when it is laid -/
def zQM (m : z_Mem) (p : zP) : Prop := (∀ f, 0 ≤ f → f < pF p → m 130 f = zi (zPl p f)) ∧ ∀ f, zPl p f = true → m 135 f = zX p f ∧ m 136 f = zY p f ∧ m 137 f = zT p f
theorem e12_placed (hv : zV p) (hc : zMn' μ p) (hk : ∀ m, (∀ o i, (o < 130 ∨ 132 < o) → (o < 135 ∨ 137 < o) → m o i = μ o i) → zQM m p → K (zN (pF p).toNat (zPl p)) m) : z_ci m_X12_places [(2, 113)] μ (d + 2) K := by
  have sk := zV_sk hv
  have G : zGm μ (pF p) (pa p) (pe p) (pq p) := zMK_G hc.1
  by_cases F0 : pF p = 0
  · have np : ∀ f, zPl p f = false := fun f => by
      unfold zPl
      rw [decide_eq_false (by omega)]
      rfl
    refine e12_places0 (by rw [G.1]; exact F0) ?_
    have := hk μ (fun _ _ _ _ => rfl) ⟨fun f f0 f1 => by omega, fun f hf => by rw [np] at hf; cases hf⟩
    rw [F0] at this
    exact this
  · have F1 : 0 ≤ pF p := sk.1.1
    have hF : 0 < pF p := by omega
    have hr : 0 ≤ pr p ∧ pr p < pF p := by
      have := hv.2.2.2.2.2.1
      omega
    have tr := zBF_tr (H := pH p) sk hr
    refine e12_places sk G (zRwM_H hc.2) (zRwM_r hc.2) hr (fun m hm => ?_)
    rw [← zTr_n sk hr tr]
    have := hk m hm.1 ⟨fun f f0 f1 => ?_, fun f hf => ?_⟩
    · rw [show zN (pF p).toNat (zPl p) = zN (pF p).toNat (zin (pa p) (pr p) (pB p)) from zN_eq _ (fun f f0 f1 => zPl_e hF)] at this
      exact this
    · rw [zPl_e hF]
      exact hm.2.2.1 f f0 f1
    · rw [zPl_e hF] at hf
      exact zLy_po tr hm.2.2.2 f hf
/-- FREE -/
def zfre (p : zP) (e : Int) : Bool := !pH p e && zPl p (pq p e / 4) && zPl p (pa p (pq p e) / 4) && decide (zX p (pa p (pq p e) / 4) = zX p (pq p e / 4) + zsx ((pq p e + zT p (pq p e / 4)) % 4)) && decide (zY p (pa p (pq p e) / 4) = zY p (pq p e / 4) + zsy ((pq p e + zT p (pq p e / 4)) % 4)) && decide (zT p (pa p (pq p e) / 4) = ((pq p e + zT p (pq p e / 4)) % 4 + 2 - pa p (pq p e) % 4) % 4)
theorem e_isFree (hv : zV p) (hc : zCn' μ p) (ha : 0 ≤ a ∧ a < 2 * pF p) (hy : zfre p a = true → K 1 μ) (hn : zfre p a = false → K 0 μ) : z_ci m_X11_isFree [(2, 1), (0, a)] μ (d + 3) K := by
  have sk := zV_sk hv
  obtain ⟨w1, w2, w3⟩ := zV_e hv ha
  obtain ⟨s1, s2, s3, s4, s5, s6⟩ := sk.2.1 _ w1.1 w1.2
  have G : zGc μ (pF p) (pa p) (pe p) (pq p) := zCK_G hc.1
  obtain ⟨g1, g2⟩ := G.2.2.2 a ha.1 ha.2
  obtain ⟨Q, _⟩ := zCn_Q hv hc
  have ho : z_kd 23 = 6 := by decide +kernel
  unfold zfre at hy hn
  refine V_X11_isFree (e_isHinge zkd21 hc.2.1.1 (by omega) (fun hz => zy1 ?_) (fun hz => zy0 ?_))
  · refine hn ?_
    rw [hz]
    rfl
  · rw [hz] at hy hn
    rw [g1, g2]
    refine ⟨(by first | omega | exact ⟨by omega, by omega⟩), (by first | omega | exact ⟨by omega, by omega⟩), (by first | omega | exact ⟨by omega, by omega⟩), (by first | omega | exact ⟨by omega, by omega⟩), (by first | omega | exact ⟨by omega, by omega⟩), ?_⟩
    refine V_X6_meet ho (e_held Q (by omega) (fun h1 => zy1' ?_) (fun h1 => zy0' (zy0' (hn (by rw [h1]; rfl)))))
    refine e_held Q (by omega) (fun h2 => zy1' ⟨by omega, ?_⟩) (fun h2 => zy0' (zy0' (hn (by rw [h1, h2]; rfl))))
    obtain ⟨p1, p2, p3⟩ := Q.2.2 _ h1
    obtain ⟨q1, q2, q3⟩ := Q.2.2 _ h2
    have bd := zpo_b hv h1
    rw [h1, h2] at hy hn
    have e26 : ∀ i, μ (23 + 3) i = μ 26 i := fun _ => rfl
    have e24 : ∀ i, μ (23 + 1) i = μ 24 i := fun _ => rfl
    have e25 : ∀ i, μ (23 + 2) i = μ 25 i := fun _ => rfl
    have ew : zwy (μ (23 + 3)) (pq p a) = (pq p a + zT p (pq p a / 4)) % 4 := by
      unfold zwy
      rw [e26, p3]
    refine e_xBehind ho (by omega) (by rw [e26, p3]; omega) (by rw [e24, p1]; omega) ?_
    rw [ew, e24, e24, p1, q1]
    refine ⟨fun x1 => zy0' (hn ?_), fun x1 => ⟨by omega, ?_⟩⟩
    · rw [decide_eq_false x1]
      simp
    refine e_yBehind ho (by omega) (by rw [e26, p3]; omega) (by rw [e25, p2]; omega) ?_
    rw [ew, e25, e25, p2, q2]
    refine ⟨fun x2 => zy0' (hn ?_), fun x2 => ⟨by omega, ?_⟩⟩
    · rw [decide_eq_false x2]
      simp
    refine e_turnBehind ho (by omega) (by rw [e26, p3]; omega) ?_
    rw [ew, e26, q3]
    refine ⟨fun x3 => zy0' (hn ?_), fun x3 => zy1' (hy ?_)⟩
    · rw [decide_eq_false x3]
      simp
    · rw [decide_eq_true x1, decide_eq_true x2, decide_eq_true x3]
      rfl
theorem e12_isFree (hv : zV p) (hc : zMn' μ p) (hq : zQM μ p) (ha : 0 ≤ a ∧ a < 2 * pF p) (hy : zfre p a = true → K 1 μ) (hn : zfre p a = false → K 0 μ) : z_ci m_X12_isFree [(2, 113), (0, a)] μ (d + 3) K := by
  have sk := zV_sk hv
  obtain ⟨w1, w2, w3⟩ := zV_e hv ha
  obtain ⟨s1, s2, s3, s4, s5, s6⟩ := sk.2.1 _ w1.1 w1.2
  have G : zGm μ (pF p) (pa p) (pe p) (pq p) := zMK_G hc.1
  have g1 := G.2.2.2 a ha.1 ha.2
  obtain ⟨g2, g3, g4⟩ := G.2.2.1 _ w1.1 w1.2
  unfold zfre at hy hn
  refine V_X12_isFree ?_
  rw [g1, g2]
  refine ⟨(by first | omega | exact ⟨by omega, by omega⟩), (by first | omega | exact ⟨by omega, by omega⟩), (by first | omega | exact ⟨by omega, by omega⟩), e12_isHinge (zRwM_H hc.2) (by omega) (fun hz => zy1 ?_) (fun hz => zy0 ⟨(by first | omega | exact ⟨by omega, by omega⟩), ?_⟩)⟩
  · refine hn ?_
    rw [hz]
    rfl
  · rw [hz] at hy hn
    rw [hq.1 _ (by omega) (by omega)]
    cases h1 : zPl p (pq p a / 4) with
    | false => exact ⟨fun _ => hn (by rw [h1]; rfl), fun q => absurd rfl q⟩
    | true =>
      refine ⟨fun q => absurd q (by decide), fun _ => ⟨(by first | omega | exact ⟨by omega, by omega⟩), ?_⟩⟩
      rw [hq.1 _ (by omega) (by omega)]
      cases h2 : zPl p (pa p (pq p a) / 4) with
      | false => exact ⟨fun q => absurd rfl q, fun _ => hn (by rw [h1, h2]; rfl)⟩
      | true =>
        refine ⟨fun _ => ?_, fun q => absurd q (by decide)⟩
        obtain ⟨p1, p2, p3⟩ := hq.2 _ h1
        obtain ⟨q1, q2, q3⟩ := hq.2 _ h2
        have bd := zpo_b hv h1
        have bd2 := zpo_b hv h2
        rw [h1, h2] at hy hn
        rw [p3]
        refine ⟨(by first | omega | exact ⟨by omega, by omega⟩), (by first | omega | exact ⟨by omega, by omega⟩), (by first | omega | exact ⟨by omega, by omega⟩), (by first | omega | exact ⟨by omega, by omega⟩), (by first | omega | exact ⟨by omega, by omega⟩), ?_⟩
        have wr : 0 ≤ (pq p a + zT p (pq p a / 4)) % 4 ∧ (pq p a + zT p (pq p a / 4)) % 4 < 4 := by omega
        have xr := zsx_r ((pq p a + zT p (pq p a / 4)) % 4)
        have yr := zsy_r ((pq p a + zT p (pq p a / 4)) % 4)
        refine e12_stepX ?_
        rw [p1, q1]
        refine ⟨(by first | omega | exact ⟨by omega, by omega⟩), fun x1 => hn ?_, fun x1 => ⟨(by first | omega | exact ⟨by omega, by omega⟩), (by first | omega | exact ⟨by omega, by omega⟩), ?_⟩⟩
        · rw [decide_eq_false x1]
          simp
        refine e12_stepY ?_
        rw [p2, q2, q3, g3]
        refine ⟨(by first | omega | exact ⟨by omega, by omega⟩), fun x2 => hn ?_, fun x2 => ⟨(by first | omega | exact ⟨by omega, by omega⟩), (by first | omega | exact ⟨by omega, by omega⟩), (by first | omega | exact ⟨by omega, by omega⟩), (by first | omega | exact ⟨by omega, by omega⟩), (by first | omega | exact ⟨by omega, by omega⟩), (by first | omega | exact ⟨by omega, by omega⟩), fun x3 => hn ?_, fun x3 => hy ?_⟩⟩
        · rw [decide_eq_false x2]
          simp
        · have : ¬ zT p (pa p (pq p a) / 4) = ((pq p a + zT p (pq p a / 4)) % 4 + 2 - pa p (pq p a) % 4) % 4 := by omega
          rw [decide_eq_false this]
          simp
        · have : zT p (pa p (pq p a) / 4) = ((pq p a + zT p (pq p a / 4)) % 4 + 2 - pa p (pq p a) % 4) % 4 := by omega
          rw [decide_eq_true x1, decide_eq_true x2, decide_eq_true this]
          rfl
end LK

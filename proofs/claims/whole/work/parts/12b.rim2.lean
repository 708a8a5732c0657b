/-! THE RIM: its sides, angles, partners -/
def zWo (p : zP) : Prop := 0 < pF p ∧ ∀ f, 0 ≤ f → f < pF p → zJ (pF p) (pa p) (pe p) (pH p) 0 f
def zpi (p : zP) : Int → Int := zgo (pa p) (pe p) (pH p)
def pu (p : zP) : Int := zr (fun k => pH p (pe p k)) (4 * pF p) 0
def zta (p : zP) (t : Int) : Int := zit (zpi p) (pu p) t.toNat
def zct (p : zP) (t : Int) : Bool := !pH p (pe p (zta p t))
def zrt (p : zP) (k : Int) : Int := zel (zct p) (4 * pF p) k
def zrS (p : zP) (k : Int) : Int := zta p (zrt p k)
def zrA (p : zP) (k : Int) : Int := if k = 0 then 4 * pF p - zrt p (2 * pF p + 1) else zrt p k - zrt p (k - 1)
def zix (p : zP) (s : Int) : Int := zr (fun t => !decide (zta p t = s)) (4 * pF p) 0
def zrN (p : zP) (s : Int) : Int := zN (zix p s).toNat (zct p)
def zrP (p : zP) (k : Int) : Int := zrN p (pa p (zrS p k))
section RI
variable {a b c k v r f : Int} {p : zP} {L : List Int} {μ μ0 : z_Mem} {d : Nat} {K : Int → z_Mem → Prop} {Kn : z_Mem → Prop}
theorem zr_all {P : Int → Bool} {L : Int} : ∀ p : Int, 0 ≤ p → p ≤ L → ∀ x, p ≤ x → x < zr P L p → P x = true := by
  refine z_up (fun p h1 h2 ih x x0 x1 => ?_)
  by_cases q : p < L ∧ P p = true
  · rcases (by omega : p = x ∨ p + 1 ≤ x) with w | w
    · rw [← w]
      exact q.2
    · rw [zr_y q.1 q.2] at x1
      exact ih q.1 x w x1
  · rw [zr_no q] at x1
    omega
theorem zWo_n (hv : zV p) : zWo p ↔ 0 < pF p ∧ zhm (pH p) = pF p - 1 := by
  have sk := zV_sk hv
  unfold zWo
  constructor
  · rintro ⟨h1, h2⟩
    refine ⟨h1, ?_⟩
    rw [zhm_eq hv]
    exact (zwhole sk hv.2.2.2.1 h1).mpr h2
  · rintro ⟨h1, h2⟩
    rw [zhm_eq hv] at h2
    exact ⟨h1, (zwhole sk hv.2.2.2.1 h1).mp h2⟩
theorem e_allJoined (hv : zV p) (hc : zCn' μ p) (hy : zWo p → K 1 μ) (hn : ¬ zWo p → K 0 μ) : z_ci m_X11_allJoined [(2, 1)] μ (d + 2) K := by
  have sk := zV_sk hv
  have F0 : 0 ≤ pF p ∧ pF p ≤ 30 := sk.1
  have G : zGc μ (pF p) (pa p) (pe p) (pq p) := zCK_G hc.1
  have w := zWo_n hv
  refine V_X11_allJoined ?_
  rw [G.1]
  refine ⟨fun q => hn (fun x => by have := x.1; omega), fun q => e_howMany zkd21 hc.2.1.1 ?_⟩
  rw [G.1]
  exact ⟨(by first | omega | exact ⟨by omega, by omega⟩), fun x => hn (fun y => x (w.mp y).2), fun x => hy (w.mpr ⟨q, x⟩)⟩
theorem e12_isWhole (hv : zV p) (hc : zMn' μ p) (hy : zWo p → ∀ m, (∀ o i, o ≠ 130 → o ≠ 131 → o ≠ 132 → m o i = μ o i) → K 1 m) (hn : ¬ zWo p → ∀ m, (∀ o i, o ≠ 130 → o ≠ 131 → o ≠ 132 → m o i = μ o i) → K 0 m) : z_ci m_X12_isWhole [(2, 113)] μ (d + 2) K := by
  have sk := zV_sk hv
  have F0 : 0 ≤ pF p ∧ pF p ≤ 30 := sk.1
  have G : zGm μ (pF p) (pa p) (pe p) (pq p) := zMK_G hc.1
  refine V_X12_isWhole ?_
  rw [G.1]
  refine ⟨fun q => hn (fun x => by have := x.1; omega) μ (fun _ _ _ _ _ => rfl), fun q => ?_⟩
  have h0 : (0 : Int) ≤ 0 ∧ 0 < pF p := ⟨Int.le_refl _, q⟩
  refine e12_joins sk G (zRwM_H hc.2) h0 (fun m hm => ?_)
  have e21 : m 113 21 = pF p := by rw [hm.1 113 21 (by decide) (by decide) (by decide)]; exact G.1
  rw [e21]
  have ht := zBF_tr (H := pH p) sk h0
  have n1 := zTr_n sk h0 ht
  refine ⟨fun x => hn (fun y => x ?_) m hm.1, fun x => hy ⟨q, fun f f0 f1 => ?_⟩ m hm.1⟩
  · rw [← n1]
    have : zN (pF p).toNat (zin (pa p) 0 (zBF (pa p) (pe p) (pH p) 0)) = zN (pF p).toNat (fun _ => true) := zN_eq _ (fun f f0 f1 => (zBF_J sk h0).mpr (y.2 f f0 (by omega)))
    rw [this, zNtrue]
    omega
  · refine (zBF_J sk h0).mp (zN_full (n := (pF p).toNat) ?_ (by omega))
    rw [n1, x]
    omega
/-- what the rim stands on -/
theorem zrim (hv : zV p) (hw : zWo p) : (0 ≤ pu p ∧ pu p < 4 * pF p) ∧ pH p (pe p (pu p)) = false ∧ (∀ x, 0 ≤ x → x < pu p → pH p (pe p x) = true) ∧ zta p (4 * pF p) = pu p ∧ (∀ i j, 0 ≤ i → i < 4 * pF p → 0 ≤ j → j < 4 * pF p → zta p i = zta p j → i = j) ∧ (∀ s, 0 ≤ s → s < 4 * pF p → ∃ t, 0 ≤ t ∧ t < 4 * pF p ∧ zta p t = s) ∧ (∀ t, 0 ≤ zta p t ∧ zta p t < 4 * pF p) ∧ zN (4 * pF p).toNat (zct p) = 2 * pF p + 2 := by
  have sk := zV_sk hv
  have F0 : 0 ≤ pF p ∧ pF p ≤ 30 := sk.1
  obtain ⟨hF, hJ⟩ := hw
  have hh : zHn (pF p) (pH p) = pF p - 1 := (zwhole sk hv.2.2.2.1 hF).mpr hJ
  have cutsum : zN (4 * pF p).toNat (fun k => !pH p (pe p k)) = 2 * pF p + 2 := by
    unfold zN
    rw [zS_edges sk]
    have e1 : zS (2 * pF p).toNat (fun e => zi (!pH p (pe p (pq p e))) + zi (!pH p (pe p (pa p (pq p e))))) = zS (2 * pF p).toNat (fun e => 2 * zi (!pH p e)) := zS_eq _ (fun e e0 e1 => by
      obtain ⟨w1, w2, w3⟩ := sk.2.2 e e0 (by omega)
      obtain ⟨s1, s2, s3, s4, s5, s6⟩ := sk.2.1 (pq p e) w1.1 w1.2
      show zi (!pH p (pe p (pq p e))) + zi (!pH p (pe p (pa p (pq p e)))) = 2 * zi (!pH p e)
      rw [s5, w2]
      omega)
    rw [e1, zS_mul]
    have := zN_not (P := pH p) (2 * pF p).toNat
    unfold zHn at hh
    have e2 : zS (2 * pF p).toNat (fun i => zi (!pH p i)) = zN (2 * pF p).toNat (fun i => !pH p i) := rfl
    rw [e2]
    omega
  obtain ⟨j, j0, j1, j2⟩ := zN_pos (P := fun k => !pH p (pe p k)) (n := (4 * pF p).toNat) (by omega)
  have hu := zr_hit (P := fun k => pH p (pe p k)) (L := 4 * pF p) 0 (by omega) (by omega) ⟨j, j0, by omega, by simpa using j2⟩
  have hl := zr_le (P := fun k => pH p (pe p k)) (L := 4 * pF p) (p := 0) (by omega)
  have he := zr_end (P := fun k => pH p (pe p k)) (L := 4 * pF p) (p := 0) (by omega) hu
  have ur : 0 ≤ pu p ∧ pu p < 4 * pF p := ⟨hl.1, hu⟩
  have pm := zgo_pm (H := pH p) sk
  have h0 : (0 : Int) ≤ 0 ∧ 0 < pF p := ⟨Int.le_refl _, hF⟩
  have ht := zBF_tr (H := pH p) sk h0
  have hall := zHl_all sk hv.2.2.2.1 h0 hJ
  have fromz : ∀ k, 0 ≤ k → k < 4 * pF p → zOr (zpi p) (zgb (pa p) (pe p) (pH p)) (4 * pF p) 0 k := fun k k0 k1 => by
    have r := zround sk h0 (zTr_all ht) k ((zBF_J sk h0).mpr (hJ (k / 4) (by omega) (by omega)))
    have r2 : zFw (zpi p) (4 * 0) k := by
      intro P p0 ps
      have := r (fun x => (0 ≤ x ∧ x < 4 * pF p) ∧ P x) ⟨by omega, p0⟩ (fun c hc => by
        have e : zgo (pa p) (pe p) (zHl (pe p) (zBF (pa p) (pe p) (pH p) 0)) c = zpi p c := by
          unfold zpi zgo
          rw [hall c hc.1.1 hc.1.2]
        rw [e]
        exact ⟨(pm c hc.1.1 hc.1.2).1, ps c hc.2⟩)
      exact this.2
    exact zFw_Or pm (by omega) r2
  have all : ∀ k, 0 ≤ k → k < 4 * pF p → zOr (zpi p) (zgb (pa p) (pe p) (pH p)) (4 * pF p) (pu p) k := fun k k0 k1 => zOr_tr (zOr_sy pm (by omega) (fromz (pu p) ur.1 ur.2)) (fromz k k0 k1)
  obtain ⟨o1, o2, o3⟩ := zorbit pm ur all
  have inn : ∀ t, 0 ≤ zta p t ∧ zta p t < 4 * pF p := fun t => zit_in pm ur t.toNat
  have inj : ∀ i j, 0 ≤ i → i < 4 * pF p → 0 ≤ j → j < 4 * pF p → zta p i = zta p j → i = j := fun i j i0 i1 j0 j1 e => by
    have := o2 i.toNat j.toNat (by omega) (by omega) e
    omega
  refine ⟨ur, he, fun x x0 x1 => zr_all (P := fun k => pH p (pe p k)) 0 (by omega) (by omega) x x0 x1, o1, inj, fun s s0 s1 => ?_, inn, ?_⟩
  · obtain ⟨i, i1, i2⟩ := o3 s s0 s1
    exact ⟨i, by omega, i1, i2⟩
  · have a1 := zN_inj (P := fun k => !pH p (pe p k)) (4 * pF p).toNat (4 * pF p).toNat (g := zta p) (fun i _ _ => by have := inn i; omega) (fun i j i0 i1 j0 j1 e => inj i j i0 (by omega) j0 (by omega) e)
    have a2 := zN_inj (P := fun k => !!pH p (pe p k)) (4 * pF p).toNat (4 * pF p).toNat (g := zta p) (fun i _ _ => by have := inn i; omega) (fun i j i0 i1 j0 j1 e => inj i j i0 (by omega) j0 (by omega) e)
    have b1 := zN_not (P := fun k => !pH p (pe p k)) (4 * pF p).toNat
    have b2 := zN_not (P := zct p) (4 * pF p).toNat
    have a1' : zN (4 * pF p).toNat (zct p) ≤ zN (4 * pF p).toNat (fun k => !pH p (pe p k)) := a1
    have a2' : zN (4 * pF p).toNat (fun i => !zct p i) ≤ zN (4 * pF p).toNat (fun k => !!pH p (pe p k)) := a2
    omega
theorem zta_0 : zta p 0 = pu p := rfl
theorem zta_s {t : Int} (h : 0 ≤ t) : zta p (t + 1) = zpi p (zta p t) := by
  unfold zta
  rw [show (t + 1).toNat = t.toNat + 1 by omega]
  rfl
/-- the places of the rim's sides in the way round -/
theorem zrt_p (hv : zV p) (hw : zWo p) (hk : 0 ≤ k ∧ k < 2 * pF p + 2) : (0 ≤ zrt p k ∧ zrt p k < 4 * pF p) ∧ zct p (zrt p k) = true ∧ zN (zrt p k).toNat (zct p) = k := by
  have h := (zrim hv hw).2.2.2.2.2.2.2
  have := zel_in (P := zct p) (m := 4 * pF p) hk.1 (by omega)
  exact ⟨⟨this.1, this.2.1⟩, this.2.2.1, this.2.2.2⟩
theorem zrt_0 (hv : zV p) (hw : zWo p) : zrt p 0 = 0 := by
  obtain ⟨h1, h2, _⟩ := zrim hv hw
  have c0 : zct p 0 = true := by
    unfold zct
    rw [zta_0, h2]
    rfl
  have := zel_of (P := zct p) (m := 4 * pF p) (j := 0) (by have := hw.1; omega) c0
  exact this
def znt (p : zP) (k : Int) : Int := if k + 1 < 2 * pF p + 2 then zrt p (k + 1) else 4 * pF p
theorem znt_p (hv : zV p) (hw : zWo p) (hk : 0 ≤ k ∧ k < 2 * pF p + 2) : zrt p k < znt p k ∧ znt p k ≤ 4 * pF p ∧ (∀ t, zrt p k < t → t < znt p k → zct p t = false) ∧ pH p (pe p (zta p (znt p k))) = false := by
  obtain ⟨h1, h2, h3, h4, h5, h6, h7, h8⟩ := zrim hv hw
  obtain ⟨a1, a2, a3⟩ := zrt_p hv hw hk
  have up : ∀ t, zrt p k < t → zN (zrt p k).toNat (zct p) + 1 ≤ zN t.toNat (zct p) := fun t ht => by
    have := zN_lt' (P := zct p) a1.1 ht a2
    omega
  unfold znt
  by_cases q : k + 1 < 2 * pF p + 2
  · rw [if_pos q]
    obtain ⟨b1, b2, b3⟩ := zrt_p hv hw (k := k + 1) ⟨by omega, q⟩
    have lt : zrt p k < zrt p (k + 1) := by
      rcases (by omega : zrt p k < zrt p (k + 1) ∨ zrt p (k + 1) ≤ zrt p k) with w | w
      · exact w
      · have := zN_mono (P := zct p) (n := (zrt p (k + 1)).toNat) (k := (zrt p k).toNat) (by omega)
        omega
    refine ⟨lt, by omega, fun t t0 t1 => ?_, ?_⟩
    · cases hz : zct p t with
      | false => rfl
      | true =>
        have := up t t0
        have := zN_lt' (P := zct p) (i := t) (by omega) t1 hz
        omega
    · unfold zct at b2
      cases hz : pH p (pe p (zta p (zrt p (k + 1)))) with
      | false => rfl
      | true => rw [hz] at b2; cases b2
  · rw [if_neg q]
    refine ⟨a1.2, Int.le_refl _, fun t t0 t1 => ?_, by rw [h4]; exact h2⟩
    cases hz : zct p t with
    | false => rfl
    | true =>
      have := up t t0
      have := zN_lt' (P := zct p) (i := t) (by omega) t1 hz
      omega
theorem zix_p (hv : zV p) (hw : zWo p) {t : Int} (ht : 0 ≤ t ∧ t < 4 * pF p) : zix p (zta p t) = t := by
  obtain ⟨h1, h2, h3, h4, h5, h6, h7, h8⟩ := zrim hv hw
  have hh := zr_hit (P := fun x => !decide (zta p x = zta p t)) (L := 4 * pF p) 0 (by omega) (by omega) ⟨t, ht.1, ht.2, by rw [decide_eq_true rfl]; rfl⟩
  have hl := zr_le (P := fun x => !decide (zta p x = zta p t)) (L := 4 * pF p) (p := 0) (by omega)
  have he := zr_end (P := fun x => !decide (zta p x = zta p t)) (L := 4 * pF p) (p := 0) (by omega) hh
  refine h5 _ _ hl.1 hh ht.1 ht.2 ?_
  have : decide (zta p (zr (fun x => !decide (zta p x = zta p t)) (4 * pF p) 0) = zta p t) = true := by simpa using he
  exact of_decide_eq_true this
theorem zrN_S (hv : zV p) (hw : zWo p) (hk : 0 ≤ k ∧ k < 2 * pF p + 2) : zrN p (zrS p k) = k := by
  obtain ⟨a1, a2, a3⟩ := zrt_p hv hw hk
  unfold zrN zrS
  rw [zix_p hv hw a1, a3]
/-- each CUT side is one of the rim -/
theorem zrN_r (hv : zV p) (hw : zWo p) {s : Int} (hs : 0 ≤ s ∧ s < 4 * pF p) (hcut : pH p (pe p s) = false) : (0 ≤ zrN p s ∧ zrN p s < 2 * pF p + 2) ∧ zrS p (zrN p s) = s := by
  obtain ⟨h1, h2, h3, h4, h5, h6, h7, h8⟩ := zrim hv hw
  obtain ⟨t, t0, t1, t2⟩ := h6 s hs.1 hs.2
  have ct : zct p t = true := by
    unfold zct
    rw [t2, hcut]
    rfl
  have e : zrN p s = zN t.toNat (zct p) := by
    unfold zrN
    rw [← t2, zix_p hv hw ⟨t0, t1⟩]
  have lt := zN_lt' (P := zct p) (j := 4 * pF p) t0 t1 ct
  rw [e]
  refine ⟨⟨(zN_r _).1, by omega⟩, ?_⟩
  unfold zrS zrt
  rw [zel_of ⟨t0, t1⟩ ct]
  exact t2
theorem zrS_r (hv : zV p) (hw : zWo p) (hk : 0 ≤ k ∧ k < 2 * pF p + 2) : (0 ≤ zrS p k ∧ zrS p k < 4 * pF p) ∧ pH p (pe p (zrS p k)) = false := by
  obtain ⟨a1, a2, a3⟩ := zrt_p hv hw hk
  refine ⟨(zrim hv hw).2.2.2.2.2.2.1 _, ?_⟩
  unfold zct at a2
  show pH p (pe p (zta p (zrt p k))) = false
  cases hz : pH p (pe p (zta p (zrt p k))) with
  | false => rfl
  | true => rw [hz] at a2; cases a2
theorem zrP_r (hv : zV p) (hw : zWo p) (hk : 0 ≤ k ∧ k < 2 * pF p + 2) : (0 ≤ zrP p k ∧ zrP p k < 2 * pF p + 2) ∧ zrS p (zrP p k) = pa p (zrS p k) := by
  obtain ⟨b1, b2⟩ := zrS_r hv hw hk
  obtain ⟨s1, s2, s3, s4, s5, s6⟩ := (zV_sk hv).2.1 _ b1.1 b1.2
  exact zrN_r hv hw s1 (by rw [s5]; exact b2)
theorem zrS_inj (hv : zV p) (hw : zWo p) (hk : 0 ≤ k ∧ k < 2 * pF p + 2) (ha : 0 ≤ a ∧ a < 2 * pF p + 2) (h : zrS p k = zrS p a) : k = a := by
  rw [← zrN_S hv hw hk, h, zrN_S hv hw ha]
theorem zrA_r (hv : zV p) (hw : zWo p) (hk : 0 ≤ k ∧ k < 2 * pF p + 2) : 1 ≤ zrA p k ∧ zrA p k ≤ 4 * pF p := by
  have F1 := hw.1
  unfold zrA
  by_cases q : k = 0
  · rw [if_pos q]
    have := (zrt_p hv hw (k := 2 * pF p + 1) (by omega)).1
    omega
  · rw [if_neg q]
    have a1 := (zrt_p hv hw hk).1
    have a2 := (zrt_p hv hw (k := k - 1) (by omega)).1
    have := znt_p hv hw (k := k - 1) (by omega)
    unfold znt at this
    rw [if_pos (by omega), show k - 1 + 1 = k by omega] at this
    omega
/-- the class's rim -/
def zBor (m : z_Mem) (p : zP) : Prop := m 39 1 = 2 * pF p + 2 ∧ ∀ k, 0 ≤ k → k < 2 * pF p + 2 → m 40 k = zrS p k ∧ m 41 k = zrA p k ∧ m 42 k = zrP p k
theorem zpi_cut {s : Int} (h : pH p (pe p s) = false) : zpi p s = znx s := by
  unfold zpi zgo
  rw [if_neg (by rw [h]; decide)]
theorem zpi_hinge {s : Int} (h : pH p (pe p s) = true) : zpi p s = znx (pa p s) := by
  unfold zpi zgo
  rw [if_pos h]
theorem e_trace (hv : zV p) (hw : zWo p) (hc : zCn' μ p) (hb : ¬ μ 39 0 = 0 → zBor μ p) (hk : ∀ m, (∀ x i, ¬ (x = 39 ∧ (i = 0 ∨ i = 1)) → (x < 40 ∨ 43 < x) → m x i = μ x i) → ¬ m 39 0 = 0 → zBor m p → Kn m) : z_cn m_X0_trace [(2, 39), (2, 6), (2, 21)] μ (d + 1) Kn := by
  have sk := zV_sk hv
  have F0 : 0 ≤ pF p ∧ pF p ≤ 30 := sk.1
  have F1 := hw.1
  have G : zGc μ (pF p) (pa p) (pe p) (pq p) := zCK_G hc.1
  obtain ⟨h1, h2, h3, h4, h5, h6, h7, h8⟩ := zrim hv hw
  refine V_X0_trace ?_
  rw [G.1]
  refine ⟨fun q => ⟨(by first | omega | exact ⟨by omega, by omega⟩), (by first | omega | exact ⟨by omega, by omega⟩), ?_⟩, fun q => hk μ (fun _ _ _ _ => rfl) q (hb q)⟩
  rw [show min (2 * pF p + 2) 62 = 2 * pF p + 2 by omega]
  generalize hM : (2 * pF p + 2 : Int) = M at *
  have fr : ∀ m : z_Mem, (∀ x i, ¬ (x = 39 ∧ (i = 0 ∨ i = 1)) → (x < 40 ∨ 43 < x) → m x i = μ x i) → (∀ k, 0 ≤ k → k < 4 * pF p → m 11 k = pa p k ∧ m 12 k = pe p k) ∧ zHb (m 21 0) (pH p) := fun m hm => by
    refine ⟨fun k k0 k1 => ?_, ?_⟩
    · rw [hm 11 k (by omega) (by omega), hm 12 k (by omega) (by omega)]
      exact G.2.2.1 k k0 k1
    · rw [hm 21 0 (by omega) (by omega)]
      exact hc.2.1.1
  have er : ∀ s, 0 ≤ s → s < 4 * pF p → 0 ≤ pe p s ∧ pe p s < 60 := fun s s0 s1 => by
    have := (sk.2.1 s s0 s1).2.2.2.1
    omega
  have last : ∀ j, 0 ≤ j → j ≤ M → ∀ m : z_Mem, (∀ x i, ¬ (x = 39 ∧ (i = 0 ∨ i = 1)) → (x < 40 ∨ 43 < x) → m x i = μ x i) → m 39 1 = M → (∀ k, 0 ≤ k → k < M → m 40 k = zrS p k ∧ m 41 k = zrA p k ∧ m 43 (zrS p k) = k) → (∀ k, 0 ≤ k → k < j → m 42 k = zrP p k) → z_rn m_X0_trace 159 [some (2, 39), some (2, 6), none, none, some (0, j), none] m (d + 1) Kn := by
    refine z_up (fun j j0 j1 ih m hf h39 hs hp => V_X0_trace_159 ?_)
    rw [h39]
    refine ⟨fun q => ?_, fun q => ?_⟩
    · refine hk _ (fun x i a b => ?_) (by rw [z_st_eq]; decide) ⟨?_, fun k k0 k1 => ?_⟩
      · rw [z_st_nx (by omega)]
        exact hf x i a b
      · rw [z_st_ni (by decide), hM]
        exact h39
      · rw [hM] at k1
        rw [z_st_ne (by decide), z_st_ne (by decide), z_st_ne (by decide)]
        exact ⟨(hs k k0 k1).1, (hs k k0 k1).2.1, hp k k0 (by omega)⟩
    · obtain ⟨s1, s2, s3⟩ := hs j j0 q
      have sr := (zrS_r hv hw (k := j) (by omega)).1
      obtain ⟨t1, t2, t3, t4, t5, t6⟩ := sk.2.1 _ sr.1 sr.2
      rw [s1, ((fr m hf).1 _ sr.1 sr.2).1]
      obtain ⟨p1, p2⟩ := zrP_r hv hw (k := j) (by omega)
      have e43 : m 43 (pa p (zrS p j)) = zrP p j := by
        rw [← p2]
        exact (hs _ p1.1 (by omega)).2.2
      rw [e43]
      refine ⟨(by first | omega | exact ⟨by omega, by omega⟩), (by first | omega | exact ⟨by omega, by omega⟩), (by first | omega | exact ⟨by omega, by omega⟩), (by first | omega | exact ⟨by omega, by omega⟩), (by first | omega | exact ⟨by omega, by omega⟩), ih q _ (fun x i a b => by rw [z_st_ne (by omega)]; exact hf x i a b) (by rw [z_st_ne (by decide)]; exact h39) (fun k k0 k1 => by rw [z_st_ne (by decide), z_st_ne (by decide), z_st_ne (by decide)]; exact hs k k0 k1) (fun k k0 k1 => ?_)⟩
      by_cases w : k = j
      · rw [w, z_st_eq]
      · rw [z_st_ni w]
        exact hp k k0 (by omega)
  have main : ∀ k, 0 ≤ k → k ≤ M → ∀ m : z_Mem, (∀ x i, ¬ (x = 39 ∧ (i = 0 ∨ i = 1)) → (x < 40 ∨ 43 < x) → m x i = μ x i) → m 39 1 = M → (∀ j, 0 ≤ j → j < k → m 40 j = zrS p j ∧ m 43 (zrS p j) = j) → (∀ j, 1 ≤ j → j ≤ k → j < M → m 41 j = zrA p j) → (k = M → m 41 0 = zrA p 0) → z_rn m_X0_trace 55 [some (2, 39), some (2, 6), some (2, 21), some (0, if k < M then zrS p k else pu p), some (0, k), none] m (d + 1) Kn := by
    refine z_up (fun k k0 k1 ih m hf h39 hs ha hl => V_X0_trace_55 ?_)
    rw [h39]
    refine ⟨fun q => last 0 (by omega) (by omega) m hf h39 (fun j j0 j1 => ⟨(hs j j0 (by omega)).1, ?_, (hs j j0 (by omega)).2⟩) (fun j j0 j1 => by omega), fun q => ?_⟩
    · by_cases w : j = 0
      · rw [w]
        exact hl (by omega)
      · exact ha j (by omega) (by omega) j1
    · rw [if_pos q]
      have kr : 0 ≤ k ∧ k < 2 * pF p + 2 := by omega
      obtain ⟨sr, sc⟩ := zrS_r hv hw kr
      obtain ⟨n1, n2, n3, n4⟩ := znt_p hv hw kr
      obtain ⟨a1, a2, a3⟩ := zrt_p hv hw kr
      refine ⟨(by first | omega | exact ⟨by omega, by omega⟩), (by first | omega | exact ⟨by omega, by omega⟩), e_nextSlot (by omega) ?_⟩
      generalize hm1 : z_st (z_st m 40 k (zrS p k)) 43 (zrS p k) k = m1
      have f1 : ∀ x i, ¬ (x = 39 ∧ (i = 0 ∨ i = 1)) → (x < 40 ∨ 43 < x) → m1 x i = μ x i := fun x i a b => by
        rw [← hm1, z_st_ne (by omega), z_st_ne (by omega)]
        exact hf x i a b
      have s1 : ∀ j, 0 ≤ j → j < k + 1 → m1 40 j = zrS p j ∧ m1 43 (zrS p j) = j := fun j j0 j1 => by
        rw [← hm1]
        by_cases w : j = k
        · rw [w, z_st_ne (by decide), z_st_eq, z_st_eq]
          exact ⟨rfl, rfl⟩
        · rw [z_st_ne (by decide), z_st_ni w, z_st_ni (fun e => w (zrS_inj hv hw (by omega) kr e)), z_st_ne (by decide)]
          exact hs j j0 (by omega)
      have g1 : m1 39 1 = M := by rw [← hm1, z_st_ne (by decide), z_st_ne (by decide)]; exact h39
      have ha1 : ∀ j, 1 ≤ j → j ≤ k → j < M → m1 41 j = zrA p j := fun j j0 j1 j2 => by rw [← hm1, z_st_ne (by decide), z_st_ne (by decide)]; exact ha j j0 j1 j2
      have inner : ∀ t, zrt p k + 1 ≤ t → t ≤ znt p k → z_rn m_X0_trace 88 [some (2, 39), some (2, 6), some (2, 21), some (0, zta p t), some (0, k), some (0, t - zrt p k)] m1 (d + 1) Kn := by
        have up : ∀ t, zrt p k + 1 ≤ t → t ≤ znt p k → z_rn m_X0_trace 88 [some (2, 39), some (2, 6), some (2, 21), some (0, zta p t), some (0, k), some (0, t - zrt p k)] m1 (d + 1) Kn := by
          have zz : ∀ (lo : Int), lo = zrt p k + 1 → 0 ≤ lo → ∀ t, lo ≤ t → t ≤ znt p k → z_rn m_X0_trace 88 [some (2, 39), some (2, 6), some (2, 21), some (0, zta p t), some (0, k), some (0, t - zrt p k)] m1 (d + 1) Kn := by
            intro lo hlo lo0
            refine z_up (fun t t0 t1 iht => V_X0_trace_88 ?_)
            have tr := h7 t
            have stop : t = znt p k → z_I (k + 1) ∧ (M ≤ k + 1 → z_I (k + 1) ∧ z_rn m_X0_trace 55 [some (2, 39), some (2, 6), some (2, 21), some (0, zta p t), some (0, k + 1), none] (z_st m1 41 0 (t - zrt p k)) (d + 1) Kn) ∧ (k + 1 < M → z_I (k + 1) ∧ (0 ≤ k + 1 ∧ k + 1 < 62) ∧ z_I (k + 1) ∧ z_rn m_X0_trace 55 [some (2, 39), some (2, 6), some (2, 21), some (0, zta p t), some (0, k + 1), none] (z_st m1 41 (k + 1) (t - zrt p k)) (d + 1) Kn) := fun te => by
              refine ⟨(by first | omega | exact ⟨by omega, by omega⟩), fun x => ⟨(by first | omega | exact ⟨by omega, by omega⟩), ?_⟩, fun x => ⟨(by first | omega | exact ⟨by omega, by omega⟩), (by first | omega | exact ⟨by omega, by omega⟩), (by first | omega | exact ⟨by omega, by omega⟩), ?_⟩⟩
              · have := ih q (z_st m1 41 0 (t - zrt p k)) (fun x i a b => by rw [z_st_ne (by omega)]; exact f1 x i a b) (by rw [z_st_ne (by decide)]; exact g1) (fun j j0 j1 => by rw [z_st_ne (by decide), z_st_ne (by decide)]; exact s1 j j0 j1) (fun j j0 j1 j2 => by rw [z_st_ni (by omega)]; exact ha1 j j0 (by omega) j2) (fun _ => by
                  rw [z_st_eq, te]
                  unfold zrA znt
                  rw [if_pos rfl, if_neg (by omega), show 2 * pF p + 1 = k by omega])
                rw [if_neg (by omega)] at this
                have e : zta p t = pu p := by
                  rw [te]
                  unfold znt
                  rw [if_neg (by omega)]
                  exact h4
                rw [e]
                exact this
              · have := ih q (z_st m1 41 (k + 1) (t - zrt p k)) (fun x i a b => by rw [z_st_ne (by omega)]; exact f1 x i a b) (by rw [z_st_ne (by decide)]; exact g1) (fun j j0 j1 => by rw [z_st_ne (by decide), z_st_ne (by decide)]; exact s1 j j0 j1) (fun j j0 j1 j2 => by
                  by_cases w : j = k + 1
                  · rw [w, z_st_eq, te]
                    unfold zrA znt
                    rw [if_pos (by omega), if_neg (by omega), show k + 1 - 1 = k by omega]
                  · rw [z_st_ni w]
                    exact ha1 j j0 (by omega) j2) (fun w => by omega)
                rw [if_pos x] at this
                have e : zta p t = zrS p (k + 1) := by
                  rw [te]
                  unfold znt
                  rw [if_pos (by omega)]
                  rfl
                rw [e]
                exact this
            refine ⟨fun q1 => ?_, fun q1 => ⟨(by first | omega | exact ⟨by omega, by omega⟩), ?_⟩⟩
            · rw [g1]
              refine stop ?_
              omega
            · rw [((fr m1 f1).1 _ tr.1 tr.2).2]
              refine e_isHinge zkd21 (fr m1 f1).2 (er _ tr.1 tr.2) (fun hz => zy1' ?_) (fun hz => zy0' ?_)
              · have tn : t < znt p k := by
                  rcases (by omega : t < znt p k ∨ t = znt p k) with w | w
                  · exact w
                  · rw [w, n4] at hz
                    cases hz
                obtain ⟨u1, u2, u3, u4, u5, u6⟩ := sk.2.1 _ tr.1 tr.2
                rw [((fr m1 f1).1 _ tr.1 tr.2).1]
                refine ⟨(by first | omega | exact ⟨by omega, by omega⟩), e_nextSlot (by omega) ⟨(by first | omega | exact ⟨by omega, by omega⟩), ?_⟩⟩
                have := iht tn
                rw [zta_s (by omega), zpi_hinge hz, show t + 1 - zrt p k = t - zrt p k + 1 by omega] at this
                exact this
              · rw [g1]
                refine stop ?_
                rcases (by omega : t < znt p k ∨ t = znt p k) with w | w
                · have := n3 t (by omega) w
                  unfold zct at this
                  rw [hz] at this
                  cases this
                · exact w
          exact zz _ rfl (by omega)
        exact up
      have := inner (zrt p k + 1) (by omega) (by omega)
      rw [zta_s a1.1, (show zta p (zrt p k) = zrS p k from rfl), zpi_cut sc, show zrt p k + 1 - zrt p k = 1 by omega] at this
      exact this
  have first : ∀ s, 0 ≤ s → s ≤ pu p → z_rn m_X0_trace 27 [some (2, 39), some (2, 6), some (2, 21), some (0, s), none, none] (z_st μ 39 1 M) (d + 1) Kn := by
    have f0 : ∀ x i, ¬ (x = 39 ∧ (i = 0 ∨ i = 1)) → (x < 40 ∨ 43 < x) → z_st μ 39 1 M x i = μ x i := fun x i a b => z_st_nx (by omega)
    have go : z_rn m_X0_trace 55 [some (2, 39), some (2, 6), some (2, 21), some (0, pu p), some (0, 0), none] (z_st μ 39 1 M) (d + 1) Kn := by
      have := main 0 (by omega) (by omega) (z_st μ 39 1 M) f0 z_st_eq (fun j j0 j1 => by omega) (fun j j0 j1 => by omega) (fun w => by omega)
      rw [if_pos (by omega), (show zrS p 0 = zta p (zrt p 0) from rfl), zrt_0 hv hw, zta_0] at this
      exact this
    refine z_up (fun s s0 s1 ih => V_X0_trace_27 ⟨fun q => ?_, fun q => ⟨(by first | omega | exact ⟨by omega, by omega⟩), ?_⟩⟩)
    · obtain rfl : s = pu p := by omega
      exact go
    · have sr : 0 ≤ s ∧ s < 4 * pF p := by omega
      rw [((fr _ f0).1 _ sr.1 sr.2).2]
      refine e_isHinge zkd21 (fr _ f0).2 (er _ sr.1 sr.2) (fun hz => zy1' ⟨(by first | omega | exact ⟨by omega, by omega⟩), ih ?_⟩) (fun hz => zy0' ?_)
      · rcases (by omega : s < pu p ∨ s = pu p) with w | w
        · exact w
        · rw [w, h2] at hz
          cases hz
      · rcases (by omega : s < pu p ∨ s = pu p) with w | w
        · rw [h3 s s0 w] at hz
          cases hz
        · rw [w]
          exact go
  exact first 0 (by omega) h1.1
end RI

/-! WHAT AN OBJECT HOLDS: cubes, HINGES, ROOT, WEIGHTS -/
abbrev zP : Type := Int × (Int → Int) × (Int → Bool) × Int × (Int → Int)
abbrev pn (p : zP) : Int := p.1
abbrev pS (p : zP) : Int → Int := p.2.1
abbrev pH (p : zP) : Int → Bool := p.2.2.1
abbrev pr (p : zP) : Int := p.2.2.2.1
abbrev pW (p : zP) : Int → Int := p.2.2.2.2
abbrev pF (p : zP) : Int := zFs p.2.1 p.1
abbrev pa (p : zP) : Int → Int := zac p.2.1 p.1
abbrev pe (p : zP) : Int → Int := zeD p.2.1 p.1
abbrev pq (p : zP) : Int → Int := zeS p.2.1 p.1
def zV (p : zP) : Prop := (0 ≤ pn p ∧ pn p ≤ 7) ∧ z_c6 (pS p) (3 * pn p) ∧ zSt (pS p) (pn p) ∧ zFo (pF p) (pa p) (pe p) (pH p) ∧ (∀ e, ¬ (0 ≤ e ∧ e < 2 * pF p) → pH p e = false) ∧ ((pF p = 0 ∧ pr p = 0) ∨ (0 ≤ pr p ∧ pr p < pF p)) ∧ ∀ e, 0 ≤ e → e < 60 → 0 ≤ pW p e ∧ pW p e ≤ 9
theorem zV_sk {p : zP} (h : zV p) : zSK (pF p) (pa p) (pe p) (pq p) := zSK_ac h.1.1 (zSt_Ds h.2.2.1) (zF_30 h.1 h.2.2.1)
/-- a row of the class's joints -/
def zRwC (m : z_Mem) (j : Int) (p : zP) : Prop := zHb (m j 0) (pH p) ∧ m j 1 = pr p ∧ ∀ e, 0 ≤ e → e < 60 → m (j + 1) e = pW p e
/-- a row of the reference -/
def zRwM (m : z_Mem) (o b : Int) (p : zP) : Prop := m o b = pn p ∧ (∀ i, 0 ≤ i → i < 3 * pn p → m o (b + (1 + i)) = pS p i) ∧ m o (b + 22) = pr p ∧ (∀ e, 0 ≤ e → e < 60 → m o (b + (23 + e)) = zi (pH p e)) ∧ ∀ e, 0 ≤ e → e < 60 → m o (b + (83 + e)) = pW p e
def zCn' (m : z_Mem) (p : zP) : Prop := zCK m (pS p) (pn p) ∧ zRwC m 21 p ∧ zSh m (pF p) (pa p) (pe p) (pH p) (pr p)
def zMn' (m : z_Mem) (p : zP) : Prop := zMK m (pS p) (pn p) ∧ zRwM m 114 0 p
theorem zCK_G {m : z_Mem} {s : Int → Int} {n : Int} (h : zCK m s n) : zGc m (zFs s n) (zac s n) (zeD s n) (zeS s n) := ⟨h.1.2.2.2.2.1, h.2.2.1, fun k k0 k1 => ⟨(h.2.1 k k0 k1).1, (h.2.1 k k0 k1).2.1⟩, fun e e0 e1 => ⟨(h.2.2.2.1 e e0 e1).1, (h.2.2.2.1 e e0 e1).2.1⟩⟩
theorem zMK_G {m : z_Mem} {s : Int → Int} {n : Int} (h : zMK m s n) : zGm m (zFs s n) (zac s n) (zeD s n) (zeS s n) := ⟨h.1.2.1, h.2.2.1, fun k k0 k1 => ⟨(h.2.1 k k0 k1).1, (h.2.1 k k0 k1).2.1, (h.2.1 k k0 k1).2.2.2.1⟩, h.2.2.2.1⟩
theorem zCK_fr {m m' : z_Mem} {s : Int → Int} {n : Int} (h : zCK m s n) (hf : ∀ o i, 6 ≤ o → o ≤ 16 → m' o i = m o i) : zCK m' s n := by
  obtain ⟨a, b, c, d, e, f⟩ := h
  refine ⟨zFC_ag a (hf 6 0 (by decide) (by decide)) (hf 6 2 (by decide) (by decide)) (fun o i x y => hf o i (by omega) (by omega)), fun k k0 k1 => ?_, ?_, fun g g0 g1 => ?_, ?_, fun v v0 v1 => ?_⟩
  · rw [hf 11 k (by decide) (by decide), hf 12 k (by decide) (by decide), hf 15 k (by decide) (by decide)]
    exact b k k0 k1
  · rw [hf 6 8 (by decide) (by decide)]
    exact c
  · rw [hf 13 _ (by decide) (by decide), hf 13 _ (by decide) (by decide), hf 14 _ (by decide) (by decide)]
    exact d g g0 g1
  · rw [hf 6 11 (by decide) (by decide)]
    exact e
  · rw [hf 16 v (by decide) (by decide)]
    exact f v v0 v1
theorem zMK_fr {m m' : z_Mem} {s : Int → Int} {n : Int} (h : zMK m s n) (hf : ∀ o i, (121 ≤ o ∧ o ≤ 129) ∨ (o = 113 ∧ 21 ≤ i ∧ i ≤ 23) ∨ (o = 114 ∧ 0 ≤ i ∧ i < 22) → m' o i = m o i) : zMK m' s n := by
  obtain ⟨⟨⟨a1, a2, a3, a4, a5⟩, a6, a7⟩, b, c, d, e, f⟩ := h
  refine ⟨⟨⟨?_, a2, a3, fun i i0 i1 => ?_, a5⟩, ?_, fun g g0 g1 => ?_⟩, fun k k0 k1 => ?_, ?_, fun g g0 g1 => ?_, ?_, fun v v0 v1 => ?_⟩
  · rw [hf 114 0 (by omega)]
    exact a1
  · rw [hf 114 _ (by omega)]
    exact a4 i i0 i1
  · rw [hf 113 21 (by omega)]
    exact a6
  · rw [hf 121 g (by omega), hf 122 g (by omega)]
    exact a7 g g0 g1
  · rw [hf 123 k (by omega), hf 124 k (by omega), hf 125 k (by omega), hf 126 k (by omega), hf 128 k (by omega)]
    exact b k k0 k1
  · rw [hf 113 22 (by omega)]
    exact c
  · rw [hf 127 g (by omega)]
    exact d g g0 g1
  · rw [hf 113 23 (by omega)]
    exact e
  · rw [hf 129 v (by omega)]
    exact f v v0 v1
theorem zRwC_fr {m m' : z_Mem} {j : Int} {p : zP} (h : zRwC m j p) (hf : ∀ o i, (o = j ∧ (i = 0 ∨ i = 1)) ∨ o = j + 1 → m' o i = m o i) : zRwC m' j p := by
  obtain ⟨a, b, c⟩ := h
  refine ⟨by rw [hf j 0 (by omega)]; exact a, by rw [hf j 1 (by omega)]; exact b, fun e e0 e1 => by rw [hf (j + 1) e (by omega)]; exact c e e0 e1⟩
theorem zRwM_fr {m m' : z_Mem} {o b : Int} {p : zP} (h : zRwM m o b p) (hn : 0 ≤ pn p ∧ pn p ≤ 7) (hf : ∀ i, b ≤ i → i < b + 143 → m' o i = m o i) : zRwM m' o b p := by
  obtain ⟨a, c, d, e, f⟩ := h
  refine ⟨by rw [hf b (by omega) (by omega)]; exact a, fun i i0 i1 => by rw [hf _ (by omega) (by omega)]; exact c i i0 i1, by rw [hf _ (by omega) (by omega)]; exact d, fun x x0 x1 => by rw [hf _ (by omega) (by omega)]; exact e x x0 x1, fun x x0 x1 => by rw [hf _ (by omega) (by omega)]; exact f x x0 x1⟩
theorem zRwM_cpy {m : z_Mem} {o b o2 b2 : Int} {p : zP} (h : zRwM m o b p) (hn : 0 ≤ pn p ∧ pn p ≤ 7) : zRwM (z_cpy m o b o2 b2 143) o2 b2 p := by
  obtain ⟨a, c, d, e, f⟩ := h
  have g : ∀ t, 0 ≤ t → t < 143 → z_cpy m o b o2 b2 143 o2 (b2 + t) = m o (b + t) := fun t t0 t1 => by
    rw [z_cpy_in (by omega), show b + (b2 + t - b2) = b + t by omega]
  have g0 := g 0 (by omega) (by omega)
  rw [Int.add_zero, Int.add_zero] at g0
  exact ⟨by rw [g0]; exact a, fun i i0 i1 => by rw [g _ (by omega) (by omega)]; exact c i i0 i1, by rw [g _ (by omega) (by omega)]; exact d, fun x x0 x1 => by rw [g _ (by omega) (by omega)]; exact e x x0 x1, fun x x0 x1 => by rw [g _ (by omega) (by omega)]; exact f x x0 x1⟩
theorem zRwM_Ns {m : z_Mem} {p : zP} (h : zRwM m 114 0 p) (hv : zV p) : zNs m (pn p) (pS p) := by
  obtain ⟨a, c, d, e, f⟩ := h
  refine ⟨a, hv.1.1, hv.1.2, fun i i0 i1 => ?_, hv.2.1⟩
  have := c i i0 i1
  rw [Int.zero_add] at this
  exact this
theorem zRwM_H {m : z_Mem} {p : zP} (h : zRwM m 114 0 p) : zHm m (pH p) := fun e e0 e1 => by
  have := h.2.2.2.1 e e0 e1
  rw [Int.zero_add] at this
  exact this
theorem zRwM_r {m : z_Mem} {p : zP} (h : zRwM m 114 0 p) : m 114 22 = pr p := by
  have := h.2.2.1
  rw [Int.zero_add] at this
  exact this
theorem zRwM_W {m : z_Mem} {p : zP} (h : zRwM m 114 0 p) {e : Int} (e0 : 0 ≤ e) (e1 : e < 60) : m 114 (83 + e) = pW p e := by
  have := h.2.2.2.2 e e0 e1
  rw [Int.zero_add] at this
  exact this
section ST
variable {o q a b : Int} {p : zP} {Q : Int → zP} {μ : z_Mem} {d : Nat} {K : Int → z_Mem → Prop} {Kn : z_Mem → Prop}
theorem e_copy (ho : z_kd o = 3) (hq : z_kd q = 3) (hd : q ≠ o ∧ q + 1 ≠ o ∧ q ≠ o + 1) (h : zRwC μ q p) (hk : ∀ m, (∀ x i, ¬ (x = o ∧ (i = 0 ∨ i = 1)) → x ≠ o + 1 → m x i = μ x i) → zRwC m o p → Kn m) : z_cn m_X3_copy [(2, o), (2, q)] μ (d + 1) Kn := by
  refine V_X3_copy ho hq (hk _ (fun x i a b => ?_) ?_)
  · rw [z_cpy_ne b, z_st_nx (by omega), z_st_nx (by omega)]
  · rw [z_st_ne hd.1]
    obtain ⟨h1, h2, h3⟩ := h
    refine ⟨?_, ?_, fun e e0 e1 => ?_⟩
    · rw [z_cpy_ne (by omega), z_st_ni (by decide), z_st_eq]
      exact h1
    · rw [z_cpy_ne (by omega), z_st_eq]
      exact h2
    · rw [z_cpy_in (by omega), show 0 + (e - 0) = e by omega, z_st_ne (by omega), z_st_ne (by omega)]
      exact h3 e e0 e1
/-- the last ACTS: the newest has the greatest number -/
def zpush (k : Int) (Q : Int → zP) (p : zP) : Int → zP := fun i => if i = min k 9 then p else if k = 10 then Q (i + 1) else Q i
def zHC (m : z_Mem) (k : Int) (Q : Int → zP) : Prop := m 80 0 = k ∧ (0 ≤ k ∧ k ≤ 10) ∧ (0 ≤ m 80 1 ∧ m 80 1 < 10) ∧ ∀ i, 0 ≤ i → i < k → zRwC m (82 + 2 * ((m 80 1 - k + i) % 10)) (Q i)
theorem zring (h : 0 ≤ a ∧ a < 10) : z_kd (82 + 2 * a) = 3 := by
  rcases (by omega : a = 0 ∨ a = 1 ∨ a = 2 ∨ a = 3 ∨ a = 4 ∨ a = 5 ∨ a = 6 ∨ a = 7 ∨ a = 8 ∨ a = 9) with rfl | rfl | rfl | rfl | rfl | rfl | rfl | rfl | rfl | rfl <;> decide +kernel
theorem zkd21 : z_kd 21 = 3 := by decide +kernel
theorem e_remember {k : Int} (hh : zHC μ k Q) (hp : zRwC μ 21 p) (hk : ∀ m, (∀ x i, x < 80 ∨ 101 < x → m x i = μ x i) → zHC m (min (k + 1) 10) (zpush k Q p) → Kn m) : z_cn m_X2_remember [(2, 80), (2, 21)] μ (d + 2) Kn := by
  obtain ⟨h1, h2, h3, h4⟩ := hh
  generalize hnx : μ 80 1 = nx at h3 h4
  refine V_X2_remember ?_
  rw [hnx]
  refine ⟨h3, e_copy (zring h3) zkd21 ⟨by omega, by omega, by omega⟩ hp (fun m1 f1 r1 => ?_)⟩
  have e0 : m1 80 0 = k := by rw [f1 80 0 (by omega) (by omega)]; exact h1
  have e1 : m1 80 1 = nx := by rw [f1 80 1 (by omega) (by omega)]; exact hnx
  have fin : ∀ nx', nx' = (nx + 1) % 10 → Kn (z_st (z_st m1 80 1 nx') 80 0 (min (k + 1) 10)) := fun nx' hn => by
    refine hk _ (fun x i q => ?_) ⟨z_st_eq, by omega, ?_, fun i i0 i1 => ?_⟩
    · rw [z_st_ne (by omega), z_st_ne (by omega), f1 x i (by omega) (by omega)]
    · rw [z_st_ni (by decide), z_st_eq]
      omega
    · rw [z_st_ni (by decide), z_st_eq]
      unfold zpush
      have fr : ∀ j, 0 ≤ j → j < 10 → zRwC m1 (82 + 2 * j) (if i = min k 9 then p else if k = 10 then Q (i + 1) else Q i) → zRwC (z_st (z_st m1 80 1 nx') 80 0 (min (k + 1) 10)) (82 + 2 * j) (if i = min k 9 then p else if k = 10 then Q (i + 1) else Q i) := fun j j0 j1 hr => zRwC_fr hr (fun x y q => by rw [z_st_ne (by omega), z_st_ne (by omega)])
      refine fr _ (by omega) (by omega) ?_
      by_cases g : i = min k 9
      · rw [if_pos g, show (nx' - min (k + 1) 10 + i) % 10 = nx by omega]
        exact r1
      · rw [if_neg g]
        by_cases g2 : k = 10
        · rw [if_pos g2, show (nx' - min (k + 1) 10 + i) % 10 = (nx - k + (i + 1)) % 10 by omega]
          exact zRwC_fr (h4 (i + 1) (by omega) (by omega)) (fun x y q => f1 x y (by omega) (by omega))
        · rw [if_neg g2, show (nx' - min (k + 1) 10 + i) % 10 = (nx - k + i) % 10 by omega]
          exact zRwC_fr (h4 i i0 (by omega)) (fun x y q => f1 x y (by omega) (by omega))
  rw [e1]
  refine ⟨⟨by omega, by omega⟩, fun q => ⟨?_, ?_⟩, fun q => ⟨⟨by omega, by omega⟩, ?_, ?_⟩⟩
  · rw [z_st_ni (by decide), e0]
    exact ⟨by omega, by omega⟩
  · rw [z_st_ni (by decide), e0]
    exact fin 0 (by omega)
  · rw [z_st_ni (by decide), e0]
    exact ⟨by omega, by omega⟩
  · rw [z_st_ni (by decide), e0]
    exact fin (nx + 1) (by omega)
theorem e_bringBack {k : Int} (hh : zHC μ k Q) (h0 : k = 0 → K 0 μ) (hk : ∀ m, (∀ x i, ¬ (x = 21 ∧ (i = 0 ∨ i = 1)) → x ≠ 22 → x ≠ 80 → m x i = μ x i) → 0 < k → zHC m (k - 1) Q → zRwC m 21 (Q (k - 1)) → K 1 m) : z_ci m_X2_bringBack [(2, 80), (2, 21)] μ (d + 2) K := by
  obtain ⟨h1, h2, h3, h4⟩ := hh
  generalize hnx : μ 80 1 = nx at h3 h4
  refine V_X2_bringBack ?_
  rw [h1, hnx]
  have go : 0 < k → ∀ nx', nx' = (nx - 1) % 10 → z_cn m_X3_copy [(2, 21), (2, (82 + 2 * nx'))] (z_st (z_st μ 80 1 nx') 80 0 (k - 1)) (d + 1) (fun m => K 1 m) := fun hp nx' hn => by
    have r := h4 (k - 1) (by omega) (by omega)
    rw [show (nx - k + (k - 1)) % 10 = nx' by omega] at r
    refine e_copy zkd21 (zring (a := nx') (by omega)) ⟨by omega, by omega, by omega⟩ (p := Q (k - 1)) (zRwC_fr r (fun x y q => by rw [z_st_ne (by omega), z_st_ne (by omega)])) (fun m f1 r1 => hk m (fun x i a b c => ?_) hp ⟨?_, by omega, ?_, fun i i0 i1 => ?_⟩ r1)
    · rw [f1 x i a b, z_st_ne c, z_st_ne c]
    · rw [f1 80 0 (by omega) (by omega), z_st_eq]
    · rw [f1 80 1 (by omega) (by omega), z_st_ni (by decide), z_st_eq]
      omega
    · rw [f1 80 1 (by omega) (by omega), z_st_ni (by decide), z_st_eq]
      have := h4 i i0 (by omega)
      rw [show (nx' - (k - 1) + i) % 10 = (nx - k + i) % 10 by omega]
      exact zRwC_fr this (fun x y q => by rw [f1 x y (by omega) (by omega), z_st_ne (by omega), z_st_ne (by omega)])
  refine ⟨fun q1 => ⟨fun q2 => ?_, fun q3 => ?_⟩, fun q4 => h0 q4⟩
  · have w : ∀ v, z_st μ 80 1 v 80 0 = k := fun v => by rw [z_st_ni (by decide)]; exact h1
    have w2 : ∀ v u, z_st (z_st μ 80 1 v) 80 0 u 80 1 = v := fun v u => by rw [z_st_ni (by decide), z_st_eq]
    rw [w, w2]
    exact ⟨⟨by omega, by omega⟩, by omega, go (by omega) 9 (by omega)⟩
  · have w : ∀ v, z_st μ 80 1 v 80 0 = k := fun v => by rw [z_st_ni (by decide)]; exact h1
    have w2 : ∀ v u, z_st (z_st μ 80 1 v) 80 0 u 80 1 = v := fun v u => by rw [z_st_ni (by decide), z_st_eq]
    rw [w, w2]
    exact ⟨⟨by omega, by omega⟩, ⟨by omega, by omega⟩, by omega, go (by omega) (nx - 1) (by omega)⟩
theorem e_forget (hk : Kn (z_st μ 80 0 0)) : z_cn m_X2_forget [(2, 80)] μ d Kn := V_X2_forget hk
theorem e_begin (hk : ∀ m, (∀ x i, ¬ (x = 21 ∧ (i = 0 ∨ i = 1)) → x ≠ 22 → m x i = μ x i) → m 21 0 = 0 → m 21 1 = 0 → (∀ e, 0 ≤ e → e < 60 → m 22 e = 1) → Kn m) : z_cn m_X3_begin [(2, 21)] μ d Kn := by
  have key : ∀ j, 0 ≤ j → j ≤ 60 → ∀ m : z_Mem, (∀ x i, ¬ (x = 21 ∧ (i = 0 ∨ i = 1)) → x ≠ 22 → m x i = μ x i) → m 21 0 = 0 → m 21 1 = 0 → (∀ e, 0 ≤ e → e < j → m 22 e = 1) → z_rn m_X3_begin 12 [some (2, 21), some (0, j)] m d Kn := by
    refine z_up (fun j j0 j1 ih m hf h0 h1 hw => V_X3_begin_12 zkd21 ⟨fun q => hk m hf h0 h1 (fun e e0 e1 => hw e e0 (by omega)), fun q => ⟨⟨j0, q⟩, ⟨by omega, by omega⟩, ih q _ (fun x i a b => ?_) ?_ ?_ (fun e e0 e1 => ?_)⟩⟩)
    · show z_st m 22 j 1 x i = μ x i
      rw [z_st_ne b]
      exact hf x i a b
    · rw [z_st_ne (by decide)]
      exact h0
    · rw [z_st_ne (by decide)]
      exact h1
    · by_cases r : e = j
      · rw [r]
        exact z_st_eq
      · rw [show z_st m (21 + 1) j 1 22 e = m 22 e from z_st_ni r]
        exact hw e e0 (by omega)
  exact V_X3_begin zkd21 (key 0 (by decide) (by decide) _ (fun x i a b => by rw [z_st_nx (by omega), z_st_nx (by omega)]) (by rw [z_st_ni (by decide), z_st_eq]) z_st_eq (fun e e0 e1 => by omega))
/-- the plane laid anew, nothing else known -/
theorem e_settle (hv : zV p) (hc : zCK μ (pS p) (pn p)) (hr : zRwC μ 21 p) (hk : ∀ m, (∀ x i, (x < 23 ∨ 28 < x) → ¬ (x = 29 ∧ i = 0) → ¬ (x = 39 ∧ i = 0) → ¬ (x = 44 ∧ i = 0) → m x i = μ x i) → m 29 0 = 0 → m 39 0 = 0 → m 44 0 = 0 → zCn' m p → Kn m) : z_cn m_X11_settle [(2, 1)] μ (d + 4) Kn := by
  have sk := zV_sk hv
  refine V_X11_settle (e_lay sk (zCK_G hc) hr.1 (by have := hv.2.2.2.2.2.1; omega) hr.2.1 (by have := hv.2.2.2.2.2.1; omega) (fun m1 f1 s1 => hk _ (fun x i a b c e => ?_) ?_ ?_ z_st_eq ⟨?_, ?_, ?_⟩))
  · rw [z_st_nx e, z_st_nx c, z_st_nx b]
    exact f1 x i a
  · rw [z_st_ne (by decide), z_st_ne (by decide), z_st_eq]
  · rw [z_st_ne (by decide), z_st_eq]
  · exact zCK_fr hc (fun x i a b => by rw [z_st_ne (by omega), z_st_ne (by omega), z_st_ne (by omega)]; exact f1 x i (by omega))
  · exact zRwC_fr hr (fun x i q => by rw [z_st_ne (by omega), z_st_ne (by omega), z_st_ne (by omega)]; exact f1 x i (by omega))
  · have g : ∀ x i, 23 ≤ x → x ≤ 28 → z_st (z_st (z_st m1 29 0 0) 39 0 0) 44 0 0 x i = m1 x i := fun x i a b => by rw [z_st_ne (by omega), z_st_ne (by omega), z_st_ne (by omega)]
    rcases s1 with ⟨a, b, c⟩ | ⟨a, b⟩
    · exact Or.inl ⟨a, by rw [g _ _ (by omega) (by omega)]; exact b, by rw [g _ _ (by omega) (by omega)]; exact c⟩
    · exact Or.inr ⟨a, zPS_fr b (fun x i c e => g x i c (by omega))⟩
/-! the reference's ACTS -/
def zHM (m : z_Mem) (k : Int) (Q : Int → zP) : Prop := m 113 6 = k ∧ (0 ≤ k ∧ k ≤ 10) ∧ ∀ i, 0 ≤ i → i < k → (0 ≤ pn (Q i) ∧ pn (Q i) ≤ 7) ∧ zRwM m 117 (143 * i) (Q i)
theorem zk114 : z_kd 114 = 14 ∧ z_ln 114 = 143 := by constructor <;> decide +kernel
theorem zk117 : z_kd 117 = 14 ∧ z_ln 117 = 1430 := by constructor <;> decide +kernel
theorem e12_keepsPast {k : Int} (hh : zHM μ k Q) (hp : zRwM μ 114 0 p) (hn : 0 ≤ pn p ∧ pn p ≤ 7) (hk : ∀ m, (∀ x i, ¬ (x = 113 ∧ i = 6) → x ≠ 117 → m x i = μ x i) → zHM m (min (k + 1) 10) (zpush k Q p) → Kn m) : z_cn m_X12_keepsPast [(2, 113)] μ (d + 1) Kn := by
  obtain ⟨h1, h2, h3⟩ := hh
  refine V_X12_keepsPast ?_
  rw [h1]
  refine ⟨fun q => ⟨⟨by omega, by omega⟩, e_moves zk114 zk117 (by decide) (by omega) (by omega) (by decide) ?_⟩, fun q => ?_⟩
  · have e6 : z_cpy μ 114 0 117 (143 * k) 143 113 6 = k := by rw [z_cpy_ne (by decide)]; exact h1
    rw [e6]
    refine ⟨⟨by omega, by omega⟩, hk _ (fun x i a b => by rw [z_st_nx a, z_cpy_ne b]) ⟨by rw [z_st_eq]; omega, by omega, fun i i0 i1 => ?_⟩⟩
    unfold zpush
    by_cases g : i = min k 9
    · rw [if_pos g]
      refine ⟨hn, zRwM_fr (m := z_cpy μ 114 0 117 (143 * k) 143) ?_ hn (fun j _ _ => z_st_ne (by decide))⟩
      rw [show i = k by omega]
      exact zRwM_cpy hp hn
    · rw [if_neg g, if_neg q]
      have := h3 i i0 (by omega)
      refine ⟨this.1, zRwM_fr this.2 this.1 (fun j a b => by rw [z_st_ne (by decide), z_cpy_out (by omega)])⟩
  · subst q
    have key : ∀ j, 143 ≤ j → j ≤ 1430 → ∀ m : z_Mem, (∀ x i, x ≠ 117 → m x i = μ x i) → (∀ i, 0 ≤ i → i < 1430 → m 117 i = if i < j - 143 then μ 117 (i + 143) else μ 117 i) → z_rn m_X12_keepsPast 13 [some (2, 113), some (0, j)] m (d + 1) Kn := by
      refine z_up (fun j j0 j1 ih m hf hm => V_X12_keepsPast_13 ⟨fun q => ?_, fun q => ⟨⟨by omega, by omega⟩, by omega, ⟨by omega, by omega⟩, ⟨by omega, by omega⟩, ih q _ (fun x i a => by rw [z_st_ne a]; exact hf x i a) (fun i i0 i1 => ?_)⟩⟩)
      · have e6 : m 113 6 = 10 := by rw [hf 113 6 (by decide)]; exact h1
        rw [e6]
        refine ⟨⟨by omega, by omega⟩, ?_, ?_⟩
        · rw [z_st_eq]
          exact ⟨by omega, by omega⟩
        · rw [z_st_eq]
          refine e_moves zk114 zk117 (by decide) (by omega) (by omega) (by decide) ?_
          rw [z_cpy_ne (by decide), z_st_eq]
          refine ⟨⟨by omega, by omega⟩, hk _ (fun x i a b => by rw [z_st_nx a, z_cpy_ne b, z_st_nx a]; exact hf x i b) ⟨z_st_eq, by omega, fun i i0 i1 => ?_⟩⟩
          unfold zpush
          have hp' : zRwM (z_st m 113 6 (10 - 1)) 114 0 p := zRwM_fr hp hn (fun j _ _ => by rw [z_st_ne (by decide)]; exact hf 114 j (by decide))
          by_cases g : i = min 10 9
          · rw [if_pos g]
            refine ⟨hn, zRwM_fr (m := z_cpy (z_st m 113 6 (10 - 1)) 114 0 117 (143 * (10 - 1)) 143) ?_ hn (fun j _ _ => z_st_ne (by decide))⟩
            rw [show i = 10 - 1 by omega]
            exact zRwM_cpy hp' hn
          · rw [if_neg g, if_pos rfl]
            have := h3 (i + 1) (by omega) (by omega)
            refine ⟨this.1, ?_⟩
            have hs : zRwM (fun x y => μ x (y + 143)) 117 (143 * i) (Q (i + 1)) := by
              obtain ⟨a, b, c, e, f⟩ := this.2
              rw [show 143 * (i + 1) = 143 * i + 143 by omega] at a b c e f
              refine ⟨a, fun t t0 t1 => ?_, ?_, fun t t0 t1 => ?_, fun t t0 t1 => ?_⟩
              · rw [← b t t0 t1]
                exact congrArg _ (by omega)
              · rw [← c]
                exact congrArg _ (by omega)
              · rw [← e t t0 t1]
                exact congrArg _ (by omega)
              · rw [← f t t0 t1]
                exact congrArg _ (by omega)
            refine zRwM_fr hs this.1 (fun t a b => ?_)
            rw [z_st_ne (by decide), z_cpy_out (by omega), z_st_ne (by decide), hm t (by omega) (by omega), if_pos (by omega)]
      · by_cases r : i = j - 143
        · rw [r, z_st_eq, hm j (by omega) (by omega), if_neg (by omega), if_pos (by omega)]
          exact congrArg _ (by omega)
        · rw [z_st_ni r, hm i i0 i1]
          by_cases w : i < j - 143
          · rw [if_pos w, if_pos (by omega)]
          · rw [if_neg w, if_neg (by omega)]
    exact key 143 (by decide) (by decide) μ (fun _ _ _ => rfl) (fun i i0 i1 => by rw [if_neg (by omega)])
end ST

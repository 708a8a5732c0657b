/-! THE PLANE: where the squares lie -/
def zsx (w : Int) : Int := if w = 0 then 1 else if w = 2 then -1 else 0
def zsy (w : Int) : Int := if w = 1 then 1 else if w = 3 then -1 else 0
theorem zsx_r (w : Int) : -1 ≤ zsx w ∧ zsx w ≤ 1 := by
  unfold zsx
  split
  · omega
  · split <;> omega
theorem zsy_r (w : Int) : -1 ≤ zsy w ∧ zsy w ≤ 1 := by
  unfold zsy
  split
  · omega
  · split <;> omega
theorem zS1 {w : Int} (h : 0 ≤ w ∧ w < 4) : z_S 1 w = zsx w ∧ z_S 2 w = zsy w := by
  refine zd4 (P := fun w => z_S 1 w = zsx w ∧ z_S 2 w = zsy w) h ?_ ?_ ?_ ?_ <;> decide +kernel
/-- the way a side looks to, the turn of the face behind -/
def zwy (T : Int → Int) (k : Int) : Int := (k + T (k / 4)) % 4
def ztn (ac T : Int → Int) (k : Int) : Int := (zwy T k + 2 - ac k % 4) % 4
def zLy (ac : Int → Int) (r : Int) (X Y T : Int → Int) : List Int → Prop
  | [] => X r = 0 ∧ Y r = 0 ∧ T r = 0
  | k :: L => (X (ac k / 4) = X (k / 4) + zsx (zwy T k) ∧ Y (ac k / 4) = Y (k / 4) + zsy (zwy T k) ∧ T (ac k / 4) = ztn ac T k) ∧ zLy ac r X Y T L
section LY
variable {F r a b f k o : Int} {ac ed es X Y T X' Y' T' : Int → Int} {H : Int → Bool} {L : List Int} {μ μ0 : z_Mem} {d : Nat} {K : Int → z_Mem → Prop} {Kn : z_Mem → Prop}
theorem zLy_ag : ∀ {L : List Int}, zTr F ac ed H r L → zLy ac r X Y T L → (∀ f, zin ac r L f = true → X' f = X f ∧ Y' f = Y f ∧ T' f = T f) → zLy ac r X' Y' T' L
  | [], _, h, he => by
    obtain ⟨a, b, c⟩ := he r zin_r
    exact ⟨by rw [a]; exact h.1, by rw [b]; exact h.2.1, by rw [c]; exact h.2.2⟩
  | k :: L, ht, h, he => by
    obtain ⟨⟨h1, h2, h3, h4⟩, h5⟩ := ht
    have m : ∀ f, zin ac r L f = true → zin ac r (k :: L) f = true := fun f hf => by
      show (decide (f = ac k / 4) || zin ac r L f) = true
      rw [hf]
      simp
    obtain ⟨a1, a2, a3⟩ := he (ac k / 4) (by show (decide (ac k / 4 = ac k / 4) || zin ac r L (ac k / 4)) = true; rw [decide_eq_true rfl]; rfl)
    obtain ⟨b1, b2, b3⟩ := he (k / 4) (m _ h3)
    have ew : zwy T' k = zwy T k := by unfold zwy; rw [b3]
    have et : ztn ac T' k = ztn ac T k := by unfold ztn; rw [ew]
    obtain ⟨⟨c1, c2, c3⟩, c4⟩ := h
    refine ⟨⟨?_, ?_, ?_⟩, zLy_ag h5 c4 (fun f hf => he f (m f hf))⟩
    · rw [a1, b1, ew]
      exact c1
    · rw [a2, b2, ew]
      exact c2
    · rw [a3, et]
      exact c3
theorem zLy_un : ∀ {L : List Int}, zTr F ac ed H r L → zLy ac r X Y T L → zLy ac r X' Y' T' L → ∀ f, zin ac r L f = true → X' f = X f ∧ Y' f = Y f ∧ T' f = T f
  | [], _, h, h', f, hf => by
    have : f = r := of_decide_eq_true hf
    subst this
    exact ⟨by rw [h.1, h'.1], by rw [h.2.1, h'.2.1], by rw [h.2.2, h'.2.2]⟩
  | k :: L, ht, h, h', f, hf => by
    obtain ⟨⟨h1, h2, h3, h4⟩, h5⟩ := ht
    have hf' : (decide (f = ac k / 4) || zin ac r L f) = true := hf
    rw [Bool.or_eq_true] at hf'
    rcases hf' with q | q
    · have q := of_decide_eq_true q
      subst q
      obtain ⟨b1, b2, b3⟩ := zLy_un h5 h.2 h'.2 (k / 4) h3
      have ew : zwy T' k = zwy T k := by unfold zwy; rw [b3]
      have et : ztn ac T' k = ztn ac T k := by unfold ztn; rw [ew]
      refine ⟨?_, ?_, ?_⟩
      · rw [h.1.1, h'.1.1, b1, ew]
      · rw [h.1.2.1, h'.1.2.1, b2, ew]
      · rw [h.1.2.2, h'.1.2.2, et]
    · exact zLy_un h5 h.2 h'.2 f q
theorem zLy_b : ∀ {L : List Int}, zTr F ac ed H r L → zLy ac r X Y T L → ∀ f, zin ac r L f = true → (-(L.length : Int) ≤ X f ∧ X f ≤ L.length) ∧ (-(L.length : Int) ≤ Y f ∧ Y f ≤ L.length) ∧ 0 ≤ T f ∧ T f < 4
  | [], _, h, f, hf => by
    have : f = r := of_decide_eq_true hf
    subst this
    rw [h.1, h.2.1, h.2.2]
    exact ⟨⟨by decide, by decide⟩, ⟨by decide, by decide⟩, by decide, by decide⟩
  | k :: L, ht, h, f, hf => by
    obtain ⟨⟨h1, h2, h3, h4⟩, h5⟩ := ht
    rw [List.length_cons]
    have hf' : (decide (f = ac k / 4) || zin ac r L f) = true := hf
    rw [Bool.or_eq_true] at hf'
    rcases hf' with q | q
    · have q := of_decide_eq_true q
      subst q
      have := zLy_b h5 h.2 (k / 4) h3
      have x := zsx_r (zwy T k)
      have y := zsy_r (zwy T k)
      rw [h.1.1, h.1.2.1, h.1.2.2]
      unfold ztn
      omega
    · have := zLy_b h5 h.2 f q
      omega
/-- a sheet: what lies there -/
def zPS (m : z_Mem) (o : Int) (ac : Int → Int) (r : Int) (L : List Int) : Prop := m o 6 = L.length + 1 ∧ zBi ac r L (m o 5) ∧ zRow ac r L (m (o + 4)) ∧ zWh ac r (fun k => k) L (m (o + 5)) ∧ zLy ac r (m (o + 1)) (m (o + 2)) (m (o + 3)) L
theorem zPS_fr {m m' : z_Mem} (h : zPS m o ac r L) (hf : ∀ p i, o ≤ p → p ≤ o + 5 → m' p i = m p i) : zPS m' o ac r L := by
  obtain ⟨a, b, c, d, e⟩ := h
  have g : ∀ p, o ≤ p → p ≤ o + 5 → m' p = m p := fun p h1 h2 => funext fun i => hf p i h1 h2
  unfold zPS
  rw [g o (by omega) (by omega), g (o + 1) (by omega) (by omega), g (o + 2) (by omega) (by omega), g (o + 3) (by omega) (by omega), g (o + 4) (by omega) (by omega), g (o + 5) (by omega) (by omega)]
  exact ⟨a, b, c, d, e⟩
theorem e_holds (ho : z_kd o = 6) {v : Int} (h5 : zBi ac r L (μ o 5)) (ha : 0 ≤ a ∧ a < 32) (hy : zin ac r L a = true → K 1 μ) (hn : zin ac r L a = false → K 0 μ) : z_ci m_X6_holds [(2, o), (0, a)] μ d K := by
  refine V_X6_holds ho ⟨by omega, h5.1.1, ?_⟩
  rw [zbt_z h5.1.1, h5.2 a ha.1]
  cases hz : zin ac r L a with
  | true => exact ⟨fun q => (by cases q), fun _ => hy hz⟩
  | false => exact ⟨fun _ => hn hz, fun q => absurd rfl q⟩
theorem e_look (ho : z_kd o = 6) (ha : 0 ≤ a / 4 ∧ a / 4 < 30) (hT : 0 ≤ μ (o + 3) (a / 4) ∧ μ (o + 3) (a / 4) < 4) (h : K (zwy (μ (o + 3)) a) μ) : z_ci m_X6_look [(2, o), (0, a)] μ d K := by
  refine V_X6_look ho ⟨by omega, ⟨by omega, by omega⟩, ?_⟩
  rw [show (a % 4 + μ (o + 3) (a / 4)) % 4 = zwy (μ (o + 3)) a by unfold zwy; omega]
  exact h
theorem zwy_r {T : Int → Int} : 0 ≤ zwy T a ∧ zwy T a < 4 := by
  unfold zwy
  omega
theorem e_xBehind (ho : z_kd o = 6) (ha : 0 ≤ a / 4 ∧ a / 4 < 30) (hT : 0 ≤ μ (o + 3) (a / 4) ∧ μ (o + 3) (a / 4) < 4) (hX : -10000 ≤ μ (o + 1) (a / 4) ∧ μ (o + 1) (a / 4) ≤ 10000) (h : K (μ (o + 1) (a / 4) + zsx (zwy (μ (o + 3)) a)) μ) : z_ci m_X6_xBehind [(2, o), (0, a)] μ (d + 1) K := by
  have w := zwy_r (T := μ (o + 3)) (a := a)
  refine V_X6_xBehind ho ⟨by omega, e_look ho ha hT ⟨w, ?_⟩⟩
  rw [(zS1 w).1]
  have := zsx_r (zwy (μ (o + 3)) a)
  exact ⟨⟨by omega, by omega⟩, h⟩
theorem e_yBehind (ho : z_kd o = 6) (ha : 0 ≤ a / 4 ∧ a / 4 < 30) (hT : 0 ≤ μ (o + 3) (a / 4) ∧ μ (o + 3) (a / 4) < 4) (hX : -10000 ≤ μ (o + 2) (a / 4) ∧ μ (o + 2) (a / 4) ≤ 10000) (h : K (μ (o + 2) (a / 4) + zsy (zwy (μ (o + 3)) a)) μ) : z_ci m_X6_yBehind [(2, o), (0, a)] μ (d + 1) K := by
  have w := zwy_r (T := μ (o + 3)) (a := a)
  refine V_X6_yBehind ho ⟨by omega, e_look ho ha hT ⟨w, ?_⟩⟩
  rw [(zS1 w).2]
  have := zsy_r (zwy (μ (o + 3)) a)
  exact ⟨⟨by omega, by omega⟩, h⟩
theorem e_turnBehind (ho : z_kd o = 6) (ha : 0 ≤ a / 4 ∧ a / 4 < 30) (hT : 0 ≤ μ (o + 3) (a / 4) ∧ μ (o + 3) (a / 4) < 4) (h : K ((zwy (μ (o + 3)) a + 2 - b % 4) % 4) μ) : z_ci m_X6_turnBehind [(2, o), (0, a), (0, b)] μ (d + 1) K := by
  have w := zwy_r (T := μ (o + 3)) (a := a)
  exact V_X6_turnBehind ho (e_look ho ha hT ⟨⟨by omega, by omega⟩, ⟨by omega, by omega⟩, h⟩)
theorem zlt30 : ((2 ^ 30 : Nat) : Int) = 1073741824 := by decide
theorem e_putBehind (ho : z_kd o = 6) (ht : zTr F ac ed H r L) (hm : zPS μ o ac r L) (hl : (L.length : Int) + 1 < 30) (hk : zin ac r L (k / 4) = true) (hn : zin ac r L (ac k / 4) = false) (hk3 : 0 ≤ k / 4 ∧ k / 4 < 30) (ha3 : 0 ≤ ac k / 4 ∧ ac k / 4 < 30) (h : ∀ m, (∀ p i, p < o ∨ o + 5 < p → m p i = μ p i) → zPS m o ac r (k :: L) → Kn m) : z_cn m_X6_putBehind [(2, o), (0, k), (0, ac k)] μ (d + 2) Kn := by
  have bd := zLy_b ht hm.2.2.2.2 (k / 4) hk
  have ne : k / 4 ≠ ac k / 4 := fun q => by rw [← q, hk] at hn; cases hn
  refine V_X6_putBehind ho (e_xBehind ho hk3 bd.2.2 (by omega) ⟨ha3, ?_⟩)
  have s1 : ∀ x i p, p ≠ o + 1 → z_st μ (o + 1) (ac k / 4) x p i = μ p i := fun x i p q => z_st_ne q
  refine e_yBehind ho hk3 (by rw [s1 _ _ _ (by omega)]; exact bd.2.2) (by rw [s1 _ _ _ (by omega)]; omega) ⟨ha3, ?_⟩
  refine e_turnBehind ho hk3 (by rw [z_st_ne (by omega), z_st_ne (by omega)]; exact bd.2.2) ⟨ha3, ?_⟩
  have eT : ∀ x i v j, z_st (z_st μ (o + 1) i x) (o + 2) j v (o + 3) = μ (o + 3) := fun x i v j => by rw [zs_up_so (by omega), zs_up_so (by omega)]
  have eT1 : ∀ x i, z_st μ (o + 1) i x (o + 3) = μ (o + 3) := fun x i => by rw [zs_up_so (by omega)]
  rw [eT, eT1, s1 _ _ _ (by omega)]
  generalize hx : μ (o + 1) (k / 4) + zsx (zwy (μ (o + 3)) k) = x
  generalize hy : μ (o + 2) (k / 4) + zsy (zwy (μ (o + 3)) k) = y
  generalize hw : (zwy (μ (o + 3)) k + 2 - ac k % 4) % 4 = w
  generalize hf : ac k / 4 = f at ha3 ne hn ⊢
  generalize hm1 : z_st (z_st (z_st μ (o + 1) f x) (o + 2) f y) (o + 3) f w = m1
  have m1o : ∀ p i, p < o + 1 ∨ o + 3 < p → m1 p i = μ p i := fun p i q => by rw [← hm1, z_st_ne (by omega), z_st_ne (by omega), z_st_ne (by omega)]
  have bb := hm.2.1
  have z30 := zlt30
  have g5 : m1 o 5 = μ o 5 := m1o o 5 (by omega)
  have g6 : m1 o 6 = L.length + 1 := by rw [m1o o 6 (by omega)]; exact hm.1
  refine V_X6_add ho ?_
  have r1 : ∀ v, z_st m1 (o + 5) f v o 5 = m1 o 5 := fun v => z_st_ne (by omega)
  have r2 : ∀ v u, z_st (z_st m1 (o + 5) f v) o 5 u o 6 = m1 o 6 := fun v u => by rw [z_st_ni (by decide), z_st_ne (by omega)]
  have r3 : ∀ v u i t, z_st (z_st (z_st m1 (o + 5) f v) o 5 u) (o + 4) i t o 6 = m1 o 6 := fun v u i t => by rw [z_st_ne (by omega), r2]
  simp only [r1, r2, r3, g5, g6]
  refine ⟨by omega, by omega, ⟨bb.1.1, by rw [zpw']; exact Int.natCast_nonneg _⟩, fun q => by omega, fun q => ⟨by omega, ⟨by omega, by omega⟩, ?_⟩⟩
  refine h _ (fun p i q => ?_) ?_
  · rw [z_st_ne (by omega), z_st_ne (by omega), z_st_ne (by omega), z_st_ne (by omega)]
    exact m1o p i (by omega)
  · have fr1 : ∀ w p, (p ≠ o) → (p ≠ o + 4) → (p ≠ o + 5) → z_st (z_st (z_st (z_st m1 (o + 5) f k) o 5 w) (o + 4) (L.length + 1) f) o 6 (L.length + 1 + 1) p = m1 p := fun w p a b c => by rw [zs_up_so a, zs_up_so b, zs_up_so a, zs_up_so c]
    have hL : zLy ac r (m1 (o + 1)) (m1 (o + 2)) (m1 (o + 3)) L := zLy_ag ht hm.2.2.2.2 (fun g hg => by
      have gf : g ≠ f := fun q => by rw [q, hn] at hg; cases hg
      rw [← hm1]
      refine ⟨?_, ?_, ?_⟩
      · rw [z_st_ne (by omega), z_st_ne (by omega), z_st_ni gf]
      · rw [z_st_ne (by omega), z_st_ni gf, z_st_ne (by omega)]
      · rw [z_st_ni gf, z_st_ne (by omega), z_st_ne (by omega)])
    have e3 : m1 (o + 3) (k / 4) = μ (o + 3) (k / 4) := by rw [← hm1, z_st_ni ne, z_st_ne (by omega), z_st_ne (by omega)]
    have ew : zwy (m1 (o + 3)) k = zwy (μ (o + 3)) k := by unfold zwy; rw [e3]
    refine ⟨?_, ?_, ?_, ?_, ?_⟩
    · rw [z_st_eq, List.length_cons]
      omega
    · rw [z_st_ni (by decide), z_st_ne (by omega), z_st_eq, ← hf]
      exact zBi_s bb (by omega)
    · rw [zs_up_so (by omega), zs_up_st, zs_up_so (by omega), zs_up_so (by omega), show m1 (o + 4) = μ (o + 4) from funext fun i => m1o _ i (by omega)]
      exact zRow_s hm.2.2.1 hf.symm rfl
    · rw [zs_up_so (by omega), zs_up_so (by omega), zs_up_so (by omega), zs_up_st, show m1 (o + 5) = μ (o + 5) from funext fun i => m1o _ i (by omega)]
      exact zWh_s hm.2.2.2.1 (by rw [hf]; exact hn) hf.symm rfl
    · rw [fr1 _ (o + 1) (by omega) (by omega) (by omega), fr1 _ (o + 2) (by omega) (by omega) (by omega), fr1 _ (o + 3) (by omega) (by omega) (by omega)]
      refine ⟨⟨?_, ?_, ?_⟩, hL⟩
      · rw [ew, hf, ← hm1, z_st_ne (by omega), z_st_ne (by omega), z_st_eq, z_st_ne (by omega), z_st_ne (by omega), z_st_ni ne]
        exact hx.symm
      · rw [ew, hf, ← hm1, z_st_ne (by omega), z_st_eq, z_st_ne (by omega), z_st_ni ne, z_st_ne (by omega)]
        exact hy.symm
      · unfold ztn
        rw [ew, hf, ← hm1, z_st_eq]
        exact hw.symm
theorem e_putRoot (ho : z_kd o = 6) (hr : 0 ≤ r ∧ r < F) (hF : F ≤ 30) (h : ∀ m, (∀ p i, p < o ∨ o + 5 < p → m p i = μ p i) → zPS m o ac r [] → Kn m) : z_cn m_X6_putRoot [(2, o), (0, r), (0, F)] μ (d + 1) Kn := by
  refine V_X6_putRoot ho ⟨fun q => by omega, fun q => ⟨fun q3 => by omega, fun q4 => V_X6_add ho ?_⟩⟩
  have r1 : ∀ v, z_st (z_st (z_st μ o 5 0) o 6 0) (o + 5) r v o 5 = 0 := fun v => by rw [z_st_ne (by omega), z_st_ni (by decide), z_st_eq]
  have r2 : ∀ v u, z_st (z_st (z_st (z_st μ o 5 0) o 6 0) (o + 5) r v) o 5 u o 6 = 0 := fun v u => by rw [z_st_ni (by decide), z_st_ne (by omega), z_st_eq]
  have r3 : ∀ v u i t, z_st (z_st (z_st (z_st (z_st μ o 5 0) o 6 0) (o + 5) r v) o 5 u) (o + 4) i t o 6 = 0 := fun v u i t => by rw [z_st_ne (by omega), r2]
  simp only [r1, r2, r3]
  refine ⟨by omega, by omega, ⟨by decide, by rw [zpw']; exact Int.natCast_nonneg _⟩, fun q => by omega, fun q => ⟨by decide, ⟨by decide, by decide⟩, by omega, by omega, by omega, h _ (fun p i q => ?_) ?_⟩⟩
  · rw [z_st_ne (by omega), z_st_ne (by omega), z_st_ne (by omega), z_st_ne (by omega), z_st_ne (by omega), z_st_ne (by omega), z_st_ne (by omega), z_st_ne (by omega), z_st_ne (by omega)]
  · have e : ((((0 : Int).toNat ||| ((2 : Int) ^ r.toNat).toNat : Nat)) : Int) = (2 : Int) ^ r.toNat := by
      rw [zpw, zpw', show (0 : Int).toNat = 0 from rfl, Nat.zero_or]
    rw [e]
    refine ⟨?_, ?_, ?_, ⟨?_, fun k hk => by cases hk⟩, ?_, ?_, ?_⟩
    · rw [z_st_ne (by omega), z_st_ne (by omega), z_st_ne (by omega), z_st_eq]
      rfl
    · rw [z_st_ne (by omega), z_st_ne (by omega), z_st_ne (by omega), z_st_ni (by decide), z_st_ne (by omega), z_st_eq]
      exact zBi_0 (by omega)
    · intro j j0 j1
      have : j = 0 := by
        have : (([] : List Int).length : Int) = 0 := rfl
        omega
      rw [this, z_st_ne (by omega), z_st_ne (by omega), z_st_ne (by omega), z_st_ne (by omega), z_st_eq]
      rfl
    · rw [z_st_ne (by omega), z_st_ne (by omega), z_st_ne (by omega), z_st_ne (by omega), z_st_ne (by omega), z_st_ne (by omega), z_st_eq]
    · rw [z_st_ne (by omega), z_st_ne (by omega), z_st_eq]
    · rw [z_st_ne (by omega), z_st_eq]
    · rw [z_st_eq]
theorem e_isHinge (ho : z_kd o = 3) (hb : zHb (μ o 0) H) (ha : 0 ≤ a ∧ a < 60) (hy : H a = true → K 1 μ) (hn : H a = false → K 0 μ) : z_ci m_X3_isHinge [(2, o), (0, a)] μ d K := by
  refine V_X3_isHinge ho ⟨by omega, hb.1.1, ⟨zdv_n hb.1.1, by decide⟩, ?_⟩
  rw [zbt_l hb.1.1, hb.2 a ha.1]
  cases hz : H a with
  | true => exact ⟨fun q => (by cases q), fun _ => hy hz⟩
  | false => exact ⟨fun _ => hn hz, fun q => absurd rfl q⟩
/-- the main sheet -/
def zSh (m : z_Mem) (F : Int) (ac ed : Int → Int) (H : Int → Bool) (r : Int) : Prop := (F = 0 ∧ m 23 5 = 0 ∧ m 23 6 = 0) ∨ ((0 ≤ r ∧ r < F) ∧ zPS m 23 ac r (zBF ac ed H r))
theorem e_lay (sk : zSK F ac ed es) (hG : zGc μ0 F ac ed es) (hb : zHb (μ0 21 0) H) (hr : F = 0 ∨ (0 ≤ r ∧ r < F)) (h1 : μ0 21 1 = r) (hr0 : F = 0 → r = 0) (h : ∀ m, (∀ p i, p < 23 ∨ 28 < p → m p i = μ0 p i) → zSh m F ac ed H r → Kn m) : z_cn m_X6_lay [(2, 23), (2, 6), (2, 21)] μ0 (d + 3) Kn := by
  have F30 := sk.1.2
  have ho : z_kd 23 = 6 := by decide +kernel
  have ho3 : z_kd 21 = 3 := by decide +kernel
  refine V_X6_lay ho ?_
  rw [h1, hG.1]
  by_cases F0 : F = 0
  · have r0 := hr0 F0
    rw [F0, r0]
    refine V_X6_putRoot ho ⟨fun q => by omega, fun q => ⟨fun q3 => ?_, fun q4 => by omega⟩⟩
    refine V_X6_lay_14 ho ?_
    rw [z_st_eq]
    refine ⟨fun q => h _ (fun p i q => ?_) (Or.inl ⟨F0, ?_, z_st_eq⟩), fun q => by omega⟩
    · rw [z_st_ne (by omega), z_st_ne (by omega)]
    · rw [z_st_ni (by decide), z_st_eq]
  · have hr : 0 ≤ r ∧ r < F := by omega
    refine e_putRoot (ac := ac) ho hr F30 (fun m1 hf1 hm1 => ?_)
    have outer : ∀ (n : Nat) (i : Int) (L : List Int) (m : z_Mem), 0 ≤ i → 31 - i = n → zTr F ac ed H r L → (∀ p i, p < 23 ∨ 28 < p → m p i = μ0 p i) → zPS m 23 ac r L → (∀ m, (∀ p i, p < 23 ∨ 28 < p → m p i = μ0 p i) → zPS m 23 ac r (zBq ac ed H r n i L) → Kn m) → z_rn m_X6_lay 14 [some (2, 23), some (2, 6), some (2, 21), some (0, i), none, none] m (d + 3) Kn := by
      intro n
      induction n with
      | zero =>
        intro i L m i0 i1 ht hf hm hk
        have := zTr_le sk hr ht
        refine V_X6_lay_14 ho ?_
        rw [hm.1]
        exact ⟨fun q => hk m hf hm, fun q => by omega⟩
      | succ n ih =>
        intro i L m i0 i1 ht hf hm hk
        have ln := zTr_le sk hr ht
        have e0 : zBq ac ed H r (n + 1) i L = if i < L.length + 1 then zBq ac ed H r n (i + 1) (zBt ac ed H r L (zfj ac r L i) 4) else L := rfl
        refine V_X6_lay_14 ho ?_
        rw [hm.1]
        refine ⟨fun q => ?_, fun q => ⟨fun q3 => by omega, fun q4 => ?_⟩⟩
        · rw [e0, if_neg (by omega)] at hk
          exact hk m hf hm
        · rw [e0, if_pos q] at hk
          have fr := zTr_in sk hr ht (zin_j (j := i))
          have ef : m (23 + 4) i = zfj ac r L i := hm.2.2.1 i i0 q
          rw [ef]
          generalize hfj : zfj ac r L i = f at fr hk
          have fin : zin ac r L f = true := by rw [← hfj]; exact zin_j
          refine ⟨by omega, ⟨by omega, by omega⟩, ?_⟩
          have inner : ∀ t, 0 ≤ t → t ≤ 4 → ∀ (m : z_Mem), (∀ p i, p < 23 ∨ 28 < p → m p i = μ0 p i) → zPS m 23 ac r (zBt ac ed H r L f t.toNat) → z_rn m_X6_lay 42 [some (2, 23), some (2, 6), some (2, 21), some (0, i), some (0, f), some (0, 4 * f + t)] m (d + 3) Kn := by
            refine z_up (fun t t0 t1 ih2 m hf hm => ?_)
            obtain ⟨b1, b2, b3, b4, b5⟩ := zBt_ok fr fin ht t.toNat (by omega)
            have ln' := zTr_le sk hr b1
            refine V_X6_lay_42 ho ⟨⟨by omega, by omega⟩, ⟨by omega, by omega⟩, fun q1 => ⟨⟨by omega, by omega⟩, ?_⟩, fun q2 => ?_⟩
            · obtain rfl : t = 4 := by omega
              exact ih (i + 1) _ m (by omega) (by omega) b1 hf hm hk
            · have kr : 0 ≤ 4 * f + t ∧ 4 * f + t < 4 * F := by omega
              obtain ⟨s1, s2, s3, s4, s5, s6⟩ := sk.2.1 _ kr.1 kr.2
              obtain ⟨g1, g2⟩ := hG.2.2.1 _ kr.1 kr.2
              have w1 : m 11 (4 * f + t) = ac (4 * f + t) := by rw [hf 11 _ (by omega)]; exact g1
              have w2 : m 12 (4 * f + t) = ed (4 * f + t) := by rw [hf 12 _ (by omega)]; exact g2
              have wb : zHb (m 21 0) H := by rw [hf 21 0 (by omega)]; exact hb
              have et : zBt ac ed H r L f (t + 1).toNat = zBs ac ed H r (zBt ac ed H r L f t.toNat) (4 * f + t) := by
                rw [show (t + 1).toNat = t.toNat + 1 by omega]
                show zBs _ _ _ _ _ (4 * f + (t.toNat : Int)) = _
                rw [show ((t.toNat : Nat) : Int) = t by omega]
              have nx : ∀ (m' : z_Mem), (∀ p i, p < 23 ∨ 28 < p → m' p i = μ0 p i) → zPS m' 23 ac r (zBs ac ed H r (zBt ac ed H r L f t.toNat) (4 * f + t)) → z_rn m_X6_lay 42 [some (2, 23), some (2, 6), some (2, 21), some (0, i), some (0, f), some (0, 4 * f + t + 1)] m' (d + 3) Kn := fun m' hf' h' => by
                have := ih2 (by omega) m' hf' (by rw [et]; exact h')
                rw [show 4 * f + (t + 1) = 4 * f + t + 1 by omega] at this
                exact this
              rw [w2]
              refine ⟨by omega, e_isHinge ho3 wb (by omega) (fun hh => ⟨fun q => absurd q (by decide), fun _ => ⟨by omega, ?_⟩⟩) (fun hh => ⟨fun _ => ⟨⟨by omega, by omega⟩, ?_⟩, fun q => absurd rfl q⟩)⟩
              · rw [w1]
                refine e_holds (v := 0) ho hm.2.1 (by omega) (fun hz => ⟨fun _ => ⟨⟨by omega, by omega⟩, ?_⟩, fun q => absurd q (by decide)⟩) (fun hz => ⟨fun q => absurd rfl q, fun _ => ⟨by omega, ?_⟩⟩)
                · have es' : zBs ac ed H r (zBt ac ed H r L f t.toNat) (4 * f + t) = zBt ac ed H r L f t.toNat := by unfold zBs; exact if_neg (fun w => by rw [hz] at w; cases w.2)
                  exact nx m hf (by rw [es']; exact hm)
                · have es' : zBs ac ed H r (zBt ac ed H r L f t.toNat) (4 * f + t) = (4 * f + t) :: zBt ac ed H r L f t.toNat := by unfold zBs; exact if_pos ⟨hh, hz⟩
                  have lt := zTr_lt sk hr b1 (f := ac (4 * f + t) / 4) (by omega) hz
                  rw [w1]
                  refine e_putBehind ho b1 hm (by omega) (by rw [show (4 * f + t) / 4 = f by omega]; exact b2 f fin) hz (by omega) (by omega) (fun m' hf' hm' => ⟨⟨by omega, by omega⟩, nx m' (fun p i q => ?_) ?_⟩)
                  · rw [hf' p i (by omega)]
                    exact hf p i q
                  · rw [es']
                    exact hm'
              · have es' : zBs ac ed H r (zBt ac ed H r L f t.toNat) (4 * f + t) = zBt ac ed H r L f t.toNat := by unfold zBs; exact if_neg (fun w => by rw [hh] at w; cases w.1)
                exact nx m hf (by rw [es']; exact hm)
          have := inner 0 (by omega) (by omega) m hf hm
          rw [show 4 * f + 0 = 4 * f by omega] at this
          exact this
    exact outer 31 0 [] m1 (by omega) (by omega) trivial (fun p i q => hf1 p i (by omega)) hm1 (fun m hf hm => h m hf (Or.inr ⟨hr, hm⟩))
end LY

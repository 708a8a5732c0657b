/-! ACTS: hinge, cut, root, weigh -/
abbrev psH (p : zP) (H : Int → Bool) : zP := (p.1, p.2.1, H, p.2.2.2.1, p.2.2.2.2)
abbrev psr (p : zP) (r : Int) : zP := (p.1, p.2.1, p.2.2.1, r, p.2.2.2.2)
abbrev psW (p : zP) (W : Int → Int) : zP := (p.1, p.2.1, p.2.2.1, p.2.2.2.1, W)
/-- what an act of the class leaves -/
def zfA (μ m : z_Mem) : Prop := ∀ x i, (x ≤ 16 ∨ 102 ≤ x) → m x i = μ x i
/-- what an act of the reference leaves -/
def zfM (μ m : z_Mem) : Prop := ∀ x i, (x ≤ 112 ∨ (118 ≤ x ∧ x ≤ 129) ∨ (x = 113 ∧ (i = 8 ∨ (21 ≤ i ∧ i ≤ 23)))) → m x i = μ x i
/-- how the two ends of an EDGE are joined -/
def zje (p : zP) (a : Int) : Prop := zJ (pF p) (pa p) (pe p) (pH p) (pq p a / 4) (pa p (pq p a) / 4)
section AC
variable {a b k v : Int} {p : zP} {Q : Int → zP} {μ μ0 : z_Mem} {d : Nat} {K : Int → z_Mem → Prop} {Kn : z_Mem → Prop}
theorem zV_e (hv : zV p) (ha : 0 ≤ a ∧ a < 2 * pF p) : (0 ≤ pq p a ∧ pq p a < 4 * pF p) ∧ pe p (pq p a) = a ∧ pF p ≤ 30 := by
  have sk := zV_sk hv
  have := sk.2.2 a ha.1 ha.2
  exact ⟨this.1, this.2.1, sk.1.2⟩
theorem zV_on (hv : zV p) (ha : 0 ≤ a ∧ a < 2 * pF p) (hj : ¬ zje p a) : zV (psH p (zon (pH p) a)) := by
  obtain ⟨e1, e2, e3⟩ := zV_e hv ha
  obtain ⟨h1, h2, h3, h4, h5, h6, h7⟩ := id hv
  have := zFo_on (zV_sk hv) e1 h4 hj
  rw [show pe p (pq p a) = a from e2] at this
  refine ⟨h1, h2, h3, this, fun e he => ?_, h6, h7⟩
  have ne : e ≠ a := fun q => he (by rw [q]; exact ha)
  show zon (pH p) a e = false
  rw [zon_ne ne]
  exact h5 e he
theorem zV_of (hv : zV p) : zV (psH p (zof (pH p) a)) := by
  obtain ⟨h1, h2, h3, h4, h5, h6, h7⟩ := id hv
  refine ⟨h1, h2, h3, zFo_of h4, fun e he => ?_, h6, h7⟩
  show zof (pH p) a e = false
  unfold zof
  rw [h5 e he]
  rfl
theorem zHb_on (h : zHb v (pH p)) (ha : 0 ≤ a ∧ a < 60) : zHb (zor v a) (zon (pH p) a) := by
  refine ⟨⟨zor_n, zor_lt h.1.2 (by omega)⟩, fun e e0 => ?_⟩
  rw [zbt_or ha.1 e0, h.2 e e0, Bool.or_comm]
  rfl
theorem zHb_of (h : zHb v (pH p)) (ha : 0 ≤ a ∧ a < 60) : zHb (zan v a) (zof (pH p) a) := by
  refine ⟨⟨zan_n, zan_lt h.1.2⟩, fun e e0 => ?_⟩
  rw [zbt_an ha.1 e0, h.2 e e0]
  rfl
theorem e_setHinge (hp : zRwC μ 21 p) (ha : 0 ≤ a ∧ a < 60) (hk : zRwC (z_st μ 21 0 (zor (μ 21 0) a)) 21 (psH p (zon (pH p) a)) → Kn (z_st μ 21 0 (zor (μ 21 0) a))) : z_cn m_X3_setHinge [(2, 21), (0, a)] μ d Kn := by
  refine V_X3_setHinge zkd21 ⟨by omega, ⟨hp.1.1.1, by rw [zpw']; exact Int.natCast_nonneg _⟩, hk ⟨?_, ?_, fun e e0 e1 => ?_⟩⟩
  · rw [z_st_eq]
    exact zHb_on hp.1 ha
  · rw [z_st_ni (by decide)]
    exact hp.2.1
  · rw [z_st_ne (by decide)]
    exact hp.2.2 e e0 e1
theorem e_setCut (hp : zRwC μ 21 p) (ha : 0 ≤ a ∧ a < 60) (hk : zRwC (z_st μ 21 0 (zan (μ 21 0) a)) 21 (psH p (zof (pH p) a)) → Kn (z_st μ 21 0 (zan (μ 21 0) a))) : z_cn m_X3_setCut [(2, 21), (0, a)] μ d Kn := by
  refine V_X3_setCut zkd21 ⟨by omega, ⟨hp.1.1.1, by rw [zpw']; exact Int.natCast_nonneg _⟩, hk ⟨?_, ?_, fun e e0 e1 => ?_⟩⟩
  · rw [z_st_eq]
    exact zHb_of hp.1 ha
  · rw [z_st_ni (by decide)]
    exact hp.2.1
  · rw [z_st_ne (by decide)]
    exact hp.2.2 e e0 e1
theorem e_faceOf {F : Int} {ac ed es : Int → Int} (hG : zGc μ F ac ed es) (hF : F ≤ 30) (ha : 0 ≤ a ∧ a < 2 * F) (hb : b = 0 ∨ b = 1) (hk : K ((if b = 0 then es a else ac (es a)) / 4) μ) : z_ci m_X9_faceOf [(2, 6), (0, a), (0, b)] μ d K := by
  obtain ⟨g1, g2⟩ := hG.2.2.2 a ha.1 ha.2
  refine V_X9_faceOf ⟨⟨by omega, by omega⟩, ⟨by omega, by omega⟩, by omega, ?_⟩
  rcases hb with rfl | rfl
  · rw [Int.add_zero, g1]
    rw [if_pos rfl] at hk
    exact hk
  · rw [g2]
    rw [if_neg (by decide)] at hk
    exact hk
theorem zfA_r (h : zfA μ0 μ) {m : z_Mem} (hm : ∀ o i, o ≠ 17 → o ≠ 18 → m o i = μ o i) : zfA μ0 m := fun x i q => by rw [hm x i (by omega) (by omega)]; exact h x i q
theorem zCn_fr {m : z_Mem} (h : zCn' μ p) (hf : ∀ x i, (6 ≤ x ∧ x ≤ 16) ∨ (21 ≤ x ∧ x ≤ 28) → m x i = μ x i) : zCn' m p := by
  obtain ⟨h1, h2, h3⟩ := h
  refine ⟨zCK_fr h1 (fun o i a b => hf o i (by omega)), zRwC_fr h2 (fun o i q => hf o i (by omega)), ?_⟩
  rcases h3 with ⟨a, b, c⟩ | ⟨a, b⟩
  · exact Or.inl ⟨a, by rw [hf _ _ (by omega)]; exact b, by rw [hf _ _ (by omega)]; exact c⟩
  · exact Or.inr ⟨a, zPS_fr b (fun x i c e => hf x i (by omega))⟩
theorem zMn_fr {m : z_Mem} (h : zMn' μ p) (hn : 0 ≤ pn p ∧ pn p ≤ 7) (hf : ∀ x i, (121 ≤ x ∧ x ≤ 129) ∨ (x = 113 ∧ 21 ≤ i ∧ i ≤ 23) ∨ (x = 114 ∧ 0 ≤ i ∧ i < 143) → m x i = μ x i) : zMn' m p := by
  obtain ⟨h1, h2⟩ := h
  exact ⟨zMK_fr h1 (fun o i q => hf o i (by omega)), zRwM_fr h2 hn (fun i a b => hf 114 i (by omega))⟩
/-- behind a remembered row and a new one: settle -/
theorem e_act {p' : zP} {k' : Int} {Q' : Int → zP} (hv : zV p') (hc : zCK μ (pS p') (pn p')) (hr : zRwC μ 21 p') (hf : zfA μ0 μ) (hh : zHC μ k' Q') (hk : ∀ m, zfA μ0 m → m 29 0 = 0 → m 39 0 = 0 → m 44 0 = 0 → zCn' m p' → zHC m k' Q' → Kn m) : z_cn m_X11_settle [(2, 1)] μ (d + 4) Kn := by
  refine e_settle hv hc hr (fun m fm f1 f2 f3 c => hk m (fun x i q => ?_) f1 f2 f3 c ?_)
  · rw [fm x i (by omega) (by omega) (by omega) (by omega)]
    exact hf x i q
  · obtain ⟨a1, a2, a3, a4⟩ := hh
    have e : ∀ i, m 80 i = μ 80 i := fun i => fm 80 i (by omega) (by omega) (by omega) (by omega)
    refine ⟨by rw [e]; exact a1, a2, by rw [e]; exact a3, fun i i0 i1 => ?_⟩
    rw [e]
    have := a4 i i0 i1
    have nx := a3
    exact zRwC_fr this (fun x y q => fm x y (by omega) (by omega) (by omega) (by omega))
theorem e_hinge (hv : zV p) (hc : zCn' μ p) (hh : zHC μ k Q) (h1 : ¬ (0 ≤ a ∧ a < 2 * pF p) → K (-1) μ) (h2 : 0 ≤ a ∧ a < 2 * pF p → pH p a = true → K (-2) μ) (h3 : 0 ≤ a ∧ a < 2 * pF p → pH p a = false → zje p a → ∀ m, (∀ o i, o ≠ 17 → o ≠ 18 → m o i = μ o i) → K (-3) m) (h4 : 0 ≤ a ∧ a < 2 * pF p → pH p a = false → ¬ zje p a → ∀ m, zfA μ m → m 29 0 = 0 → m 39 0 = 0 → m 44 0 = 0 → zCn' m (psH p (zon (pH p) a)) → zHC m (min (k + 1) 10) (zpush k Q p) → K (zhm (zon (pH p) a)) m) : z_ci m_X11_hinge [(2, 1), (0, a)] μ (d + 8) K := by
  have sk := zV_sk hv
  have G : zGc μ (pF p) (pa p) (pe p) (pq p) := zCK_G hc.1
  refine V_X11_hinge (e_isEdge (fun q => ?_) (fun q => ?_))
  · rw [G.2.1] at q
    exact zy0 (h1 q)
  · rw [G.2.1] at q
    obtain ⟨w1, w2, w3⟩ := zV_e hv q
    refine zy1 (e_isHinge zkd21 hc.2.1.1 (by omega) (fun hz => zy1' (h2 q hz)) (fun hz => zy0' ?_))
    refine e_faceOf G w3 q (Or.inl rfl) (e_faceOf G w3 q (Or.inr rfl) ?_)
    rw [if_pos rfl, if_neg (by decide)]
    obtain ⟨s1, s2, s3, s4, s5, s6⟩ := sk.2.1 _ w1.1 w1.2
    refine e_isJoined sk G hc.2.1.1 (by omega) (by omega) (fun m v hm hj => zy1' (h3 q hz hj m hm.1)) (fun m v hm hj => zy0' ?_)
    have f17 := hm.1
    refine e_remember (Q := Q) (p := p) (k := k) ?_ (zRwC_fr hc.2.1 (fun x i _ => f17 x i (by omega) (by omega))) (fun m2 f2 h2' => ?_)
    · obtain ⟨a1, a2, a3, a4⟩ := hh
      have e : ∀ i, m 80 i = μ 80 i := fun i => f17 80 i (by decide) (by decide)
      refine ⟨by rw [e]; exact a1, a2, by rw [e]; exact a3, fun i i0 i1 => ?_⟩
      rw [e]
      exact zRwC_fr (a4 i i0 i1) (fun x y _ => f17 x y (by omega) (by omega))
    · refine e_setHinge (p := p) (zRwC_fr hc.2.1 (fun x i _ => by rw [f2 x i (by omega)]; exact f17 x i (by omega) (by omega))) (by omega) (fun r3 => ?_)
      refine e_act (μ0 := μ) (p' := psH p (zon (pH p) a)) (zV_on hv q hj) (zCK_fr hc.1 (fun x i _ _ => by rw [z_st_ne (by omega), f2 x i (by omega)]; exact f17 x i (by omega) (by omega))) r3 (fun x i q => by rw [z_st_ne (by omega), f2 x i (by omega)]; exact f17 x i (by omega) (by omega)) (k' := min (k + 1) 10) (Q' := zpush k Q p) ?_ (fun m4 f4 c1 c2 c3 c4 c5 => ?_)
      · obtain ⟨a1, a2, a3, a4⟩ := h2'
        refine ⟨by rw [z_st_ne (by decide)]; exact a1, a2, by rw [z_st_ne (by decide)]; exact a3, fun i i0 i1 => ?_⟩
        rw [z_st_ne (by decide)]
        exact zRwC_fr (a4 i i0 i1) (fun x y _ => z_st_ne (by omega))
      · exact e_howMany zkd21 c4.2.1.1 (h4 q hz hj m4 f4 c1 c2 c3 c4 c5)
theorem zHC_fr {m : z_Mem} (hh : zHC μ k Q) (hf : ∀ x i, 80 ≤ x → x ≤ 101 → m x i = μ x i) : zHC m k Q := by
  obtain ⟨a1, a2, a3, a4⟩ := hh
  refine ⟨by rw [hf _ _ (by omega) (by omega)]; exact a1, a2, by rw [hf _ _ (by omega) (by omega)]; exact a3, fun i i0 i1 => ?_⟩
  rw [hf _ _ (by omega) (by omega)]
  exact zRwC_fr (a4 i i0 i1) (fun x y _ => hf x y (by omega) (by omega))
theorem zHM_fr {m : z_Mem} (hh : zHM μ k Q) (h6 : m 113 6 = μ 113 6) (hf : ∀ i, 0 ≤ i → m 117 i = μ 117 i) : zHM m k Q := by
  obtain ⟨a1, a2, a3⟩ := hh
  refine ⟨by rw [h6]; exact a1, a2, fun i i0 i1 => ⟨(a3 i i0 i1).1, zRwM_fr (a3 i i0 i1).2 (a3 i i0 i1).1 (fun j _ _ => hf j (by omega))⟩⟩
theorem e_cut (hv : zV p) (hc : zCn' μ p) (hh : zHC μ k Q) (h1 : ¬ (0 ≤ a ∧ a < 2 * pF p) → K (-1) μ) (h2 : 0 ≤ a ∧ a < 2 * pF p → pH p a = false → K (-2) μ) (h4 : 0 ≤ a ∧ a < 2 * pF p → pH p a = true → ∀ m, zfA μ m → m 29 0 = 0 → m 39 0 = 0 → m 44 0 = 0 → zCn' m (psH p (zof (pH p) a)) → zHC m (min (k + 1) 10) (zpush k Q p) → K (zhm (zof (pH p) a)) m) : z_ci m_X11_cut [(2, 1), (0, a)] μ (d + 8) K := by
  have sk := zV_sk hv
  have G : zGc μ (pF p) (pa p) (pe p) (pq p) := zCK_G hc.1
  refine V_X11_cut (e_isEdge (fun q => ?_) (fun q => ?_))
  · rw [G.2.1] at q
    exact zy0 (h1 q)
  · rw [G.2.1] at q
    obtain ⟨w1, w2, w3⟩ := zV_e hv q
    refine zy1 (e_isHinge zkd21 hc.2.1.1 (by omega) (fun hz => zy1 ?_) (fun hz => zy0 (h2 q hz)))
    refine e_remember hh hc.2.1 (fun m2 f2 h2' => ?_)
    refine e_setCut (p := p) (zRwC_fr hc.2.1 (fun x i _ => f2 x i (by omega))) (by omega) (fun r3 => ?_)
    refine e_act (μ0 := μ) (p' := psH p (zof (pH p) a)) (zV_of hv) (zCK_fr hc.1 (fun x i _ _ => by rw [z_st_ne (by omega), f2 x i (by omega)])) r3 (fun x i q => by rw [z_st_ne (by omega), f2 x i (by omega)]) (k' := min (k + 1) 10) (Q' := zpush k Q p) (zHC_fr h2' (fun x i _ _ => z_st_ne (by omega))) (fun m4 f4 c1 c2 c3 c4 c5 => ?_)
    exact e_howMany zkd21 c4.2.1.1 (h4 q hz m4 f4 c1 c2 c3 c4 c5)
theorem e_root (hv : zV p) (hc : zCn' μ p) (hh : zHC μ k Q) (h1 : ¬ (0 ≤ a ∧ a < pF p) → K (-1) μ) (h2 : 0 ≤ a ∧ a < pF p → pr p = a → K (-2) μ) (h4 : 0 ≤ a ∧ a < pF p → ¬ pr p = a → ∀ m, zfA μ m → m 29 0 = 0 → m 39 0 = 0 → m 44 0 = 0 → zCn' m (psr p a) → zHC m (min (k + 1) 10) (zpush k Q p) → K (pr p) m) : z_ci m_X11_root [(2, 1), (0, a)] μ (d + 8) K := by
  have G : zGc μ (pF p) (pa p) (pe p) (pq p) := zCK_G hc.1
  refine V_X11_root (e_isFace (fun q => ?_) (fun q => ?_))
  · rw [G.1] at q
    exact zy0 (h1 q)
  · rw [G.1] at q
    refine zy1 ?_
    rw [hc.2.1.2.1]
    refine ⟨fun r => ?_, fun r => h2 q r⟩
    refine e_remember hh hc.2.1 (fun m2 f2 h2' => ?_)
    have e21 : m2 21 1 = pr p := by rw [f2 21 1 (by omega)]; exact hc.2.1.2.1
    rw [e21]
    refine e_act (μ0 := μ) (p' := psr p a) ?_ (zCK_fr hc.1 (fun x i _ _ => by rw [z_st_ne (by omega), f2 x i (by omega)])) ⟨?_, z_st_eq, fun e e0 e1 => ?_⟩ (fun x i q => by rw [z_st_ne (by omega), f2 x i (by omega)]) (k' := min (k + 1) 10) (Q' := zpush k Q p) (zHC_fr h2' (fun x i _ _ => z_st_ne (by omega))) (fun m4 f4 c1 c2 c3 c4 c5 => h4 q r m4 f4 c1 c2 c3 c4 c5)
    · obtain ⟨a1, a2, a3, a4, a5, a6, a7⟩ := hv
      exact ⟨a1, a2, a3, a4, a5, Or.inr q, a7⟩
    · rw [z_st_ni (by decide), f2 21 0 (by omega)]
      exact hc.2.1.1
    · rw [z_st_ne (by decide), f2 _ _ (by omega)]
      exact hc.2.1.2.2 e e0 e1
def zup (W : Int → Int) (a b : Int) : Int → Int := fun e => if e = a then b else W e
theorem zV_W (hv : zV p) (hb : 0 ≤ b ∧ b ≤ 9) : zV (psW p (zup (pW p) a b)) := by
  obtain ⟨a1, a2, a3, a4, a5, a6, a7⟩ := hv
  refine ⟨a1, a2, a3, a4, a5, a6, fun e e0 e1 => ?_⟩
  show 0 ≤ zup (pW p) a b e ∧ zup (pW p) a b e ≤ 9
  unfold zup
  split
  · exact hb
  · exact a7 e e0 e1
theorem e_weigh (hv : zV p) (hc : zCn' μ p) (hh : zHC μ k Q) (h1 : ¬ ((0 ≤ a ∧ a < 2 * pF p) ∧ 0 ≤ b ∧ b ≤ 9) → K (-1) μ) (h2 : (0 ≤ a ∧ a < 2 * pF p) ∧ 0 ≤ b ∧ b ≤ 9 → pW p a = b → K (-2) μ) (h4 : (0 ≤ a ∧ a < 2 * pF p) ∧ 0 ≤ b ∧ b ≤ 9 → ¬ pW p a = b → ∀ m, (∀ x i, ¬ (80 ≤ x ∧ x ≤ 101) → x ≠ 22 → m x i = μ x i) → zCn' m (psW p (zup (pW p) a b)) → zHC m (min (k + 1) 10) (zpush k Q p) → K (pW p a) m) : z_ci m_X11_weigh [(2, 1), (0, a), (0, b)] μ (d + 8) K := by
  have G : zGc μ (pF p) (pa p) (pe p) (pq p) := zCK_G hc.1
  refine V_X11_weigh (e_isEdge (fun q => ?_) (fun q => ?_))
  · rw [G.2.1] at q
    exact zy0' (h1 (fun w => q w.1))
  · rw [G.2.1] at q
    obtain ⟨w1, w2, w3⟩ := zV_e hv q
    have ew : μ 22 a = pW p a := hc.2.1.2.2 a q.1 (by omega)
    refine zy1' ⟨fun r => h1 (fun w => by omega), fun r => ⟨fun t => ⟨by omega, ?_⟩, fun t => h1 (fun w => by omega)⟩⟩
    rw [ew]
    refine ⟨fun t2 => ?_, fun t2 => h2 ⟨q, r, t⟩ t2⟩
    refine e_remember hh hc.2.1 (fun m2 f2 h2' => ⟨by omega, h4 ⟨q, r, t⟩ t2 _ (fun x i a1 a2 => ?_) ?_ (zHC_fr h2' (fun x i _ _ => z_st_ne (by omega)))⟩)
    · rw [z_st_ne a2]
      exact f2 x i (by omega)
    · refine ⟨zCK_fr hc.1 (fun x i _ _ => by rw [z_st_ne (by omega), f2 x i (by omega)]), ⟨?_, ?_, fun e e0 e1 => ?_⟩, ?_⟩
      · rw [z_st_ne (by decide), f2 _ _ (by omega)]
        exact hc.2.1.1
      · rw [z_st_ne (by decide), f2 _ _ (by omega)]
        exact hc.2.1.2.1
      · show z_st m2 22 a b 22 e = zup (pW p) a b e
        unfold zup
        by_cases g : e = a
        · rw [if_pos g, g, z_st_eq]
        · rw [if_neg g, z_st_ni g, f2 _ _ (by omega)]
          exact hc.2.1.2.2 e e0 e1
      · have c3 := hc.2.2
        have g : ∀ x i, 23 ≤ x → x ≤ 28 → z_st m2 22 a b x i = μ x i := fun x i _ _ => by rw [z_st_ne (by omega), f2 x i (by omega)]
        rcases c3 with ⟨u1, u2, u3⟩ | ⟨u1, u2⟩
        · exact Or.inl ⟨u1, by rw [g _ _ (by omega) (by omega)]; exact u2, by rw [g _ _ (by omega) (by omega)]; exact u3⟩
        · exact Or.inr ⟨u1, zPS_fr u2 (fun x i c e => g x i c (by omega))⟩
end AC

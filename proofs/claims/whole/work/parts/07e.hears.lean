/-! the reference's reader -/
/-- the tape of the reference tells T, L bytes of it -/
def zB (μ0 : z_Mem) (T : Int → Int) (L : Int) : Prop := (∀ i, 0 ≤ i → i < L → μ0 120 i % 256 = T i ∧ -128 ≤ μ0 120 i ∧ μ0 120 i ≤ 127) ∧ μ0 113 8 = L ∧ 0 ≤ L ∧ L ≤ 200
/-- it stands at p with fault f, behind n cubes, with j coordinates told as in s -/
def zH (μ0 m : z_Mem) (p f n j : Int) (s : Int → Int) : Prop := (∀ o i, o ≠ 113 → o ≠ 115 → m o i = μ0 o i) ∧ (∀ i, i ≠ 9 → i ≠ 10 → i ≠ 11 → m 113 i = μ0 113 i) ∧ m 113 9 = p ∧ m 113 10 = f ∧ m 115 0 = n ∧ z_ag (fun i => m 115 (1 + i)) s j ∧ z_c6 s j ∧ (∀ i, 22 ≤ i → i < 143 → m 115 i = if i < 83 then 0 else 1)
/-- a fault is found -/
def zF (μ0 m : z_Mem) (f : Int) : Prop := (∀ o i, o ≠ 113 → o ≠ 115 → m o i = μ0 o i) ∧ (∀ i, i ≠ 9 → i ≠ 10 → i ≠ 11 → m 113 i = μ0 113 i) ∧ m 113 10 = f
theorem zr_idem {P : Int → Bool} {L p : Int} (h : p ≤ L) : zr P L (zr P L p) = zr P L p := by
  refine z_up (P := fun k => zr P L (zr P L k) = zr P L k) (lo := p) (N := L) (fun k h1 h2 ih => ?_) p (Int.le_refl p) h
  by_cases q : k < L ∧ P k = true
  · rw [zr_y q.1 q.2]
    exact ih q.1
  · rw [zr_no q, zr_no q]
theorem zr_end {P : Int → Bool} {L p : Int} (h : p ≤ L) (hb : zr P L p < L) : P (zr P L p) = false := by
  have h1 := zr_idem (P := P) h
  cases hp : P (zr P L p) with
  | false => rfl
  | true =>
    rw [zr_y hb hp] at h1
    have := (zr_le (P := P) (L := L) (p := zr P L p + 1) (by omega)).1
    omega
section PD
variable {μ0 m : z_Mem} {T : Int → Int} {L p f n j : Int} {s : Int → Int} {d : Nat} {K : Int → z_Mem → Prop} {Kn : z_Mem → Prop}
theorem zH_at (h : zH μ0 m p f n j s) (q : Int) : zH μ0 (z_st m 113 9 q) q f n j s := by
  obtain ⟨h1, h2, h3, h4, h5, h6, h7, h8⟩ := h
  refine ⟨fun o i a b => by rw [z_st_ne a]; exact h1 o i a b, fun i a b c => by rw [z_st_ni a]; exact h2 i a b c, z_st_eq, by rw [z_st_ni (by decide)]; exact h4, by rw [z_st_ne (by decide)]; exact h5, fun i a b => ?_, h7, fun i a b => by rw [z_st_ne (by decide)]; exact h8 i a b⟩
  show z_st m 113 9 q 115 (1 + i) = s i
  rw [z_st_ne (by decide)]
  exact h6 i a b
theorem zH_fl (h : zH μ0 m p f n j s) (q : Int) : zH μ0 (z_st m 113 10 q) p q n j s := by
  obtain ⟨h1, h2, h3, h4, h5, h6, h7, h8⟩ := h
  refine ⟨fun o i a b => by rw [z_st_ne a]; exact h1 o i a b, fun i a b c => by rw [z_st_ni b]; exact h2 i a b c, by rw [z_st_ni (by decide)]; exact h3, z_st_eq, by rw [z_st_ne (by decide)]; exact h5, fun i a b => ?_, h7, fun i a b => by rw [z_st_ne (by decide)]; exact h8 i a b⟩
  show z_st m 113 10 q 115 (1 + i) = s i
  rw [z_st_ne (by decide)]
  exact h6 i a b
theorem zH_na (h : zH μ0 m p f n j s) (q : Int) : zH μ0 (z_st m 113 11 q) p f n j s := by
  obtain ⟨h1, h2, h3, h4, h5, h6, h7, h8⟩ := h
  refine ⟨fun o i a b => by rw [z_st_ne a]; exact h1 o i a b, fun i a b c => by rw [z_st_ni c]; exact h2 i a b c, by rw [z_st_ni (by decide)]; exact h3, by rw [z_st_ni (by decide)]; exact h4, by rw [z_st_ne (by decide)]; exact h5, fun i a b => ?_, h7, fun i a b => by rw [z_st_ne (by decide)]; exact h8 i a b⟩
  show z_st m 113 11 q 115 (1 + i) = s i
  rw [z_st_ne (by decide)]
  exact h6 i a b
theorem zH_put (h : zH μ0 m p f n j s) {v : Int} (hj : 0 ≤ j ∧ j < 21) (hv : 0 ≤ v ∧ v ≤ 6) : zH μ0 (z_st m 115 (1 + j) v) p f n (j + 1) (zs_up s j v) := by
  obtain ⟨h1, h2, h3, h4, h5, h6, h7, h8⟩ := h
  refine ⟨fun o i a b => by rw [z_st_ne b]; exact h1 o i a b, fun i a b c => by rw [z_st_ne (by decide)]; exact h2 i a b c, by rw [z_st_ne (by decide)]; exact h3, by rw [z_st_ne (by decide)]; exact h4, by rw [z_st_ni (by omega)]; exact h5, fun i a b => ?_, fun i a b => ?_, fun i a b => by rw [z_st_ni (by omega)]; exact h8 i a b⟩
  · show z_st m 115 (1 + j) v 115 (1 + i) = zs_up s j v i
    unfold zs_up
    by_cases q : i = j
    · subst q
      rw [z_st_eq, if_pos rfl]
    · rw [z_st_ni (by omega), if_neg q]
      exact h6 i a (by omega)
  · unfold zs_up
    by_cases q : i = j
    · rw [if_pos q]
      exact hv
    · rw [if_neg q]
      exact h7 i a (by omega)
theorem zH_more (h : zH μ0 m p f n j s) (q : Int) : zH μ0 (z_st m 115 0 q) p f q j s := by
  obtain ⟨h1, h2, h3, h4, h5, h6, h7, h8⟩ := h
  refine ⟨fun o i a b => by rw [z_st_ne b]; exact h1 o i a b, fun i a b c => by rw [z_st_ne (by decide)]; exact h2 i a b c, by rw [z_st_ne (by decide)]; exact h3, by rw [z_st_ne (by decide)]; exact h4, z_st_eq, fun i a b => ?_, h7, fun i a b => by rw [z_st_ni (by omega)]; exact h8 i a b⟩
  show z_st m 115 0 q 115 (1 + i) = s i
  rw [z_st_ni (by omega)]
  exact h6 i a b
theorem zH_F (h : zH μ0 m p f n j s) : zF μ0 m f := ⟨h.1, h.2.1, h.2.2.2.1⟩
theorem zF_115 (h : zF μ0 m f) (i v : Int) : zF μ0 (z_st m 115 i v) f := ⟨fun o k a b => by rw [z_st_ne b]; exact h.1 o k a b, fun k a b c => by rw [z_st_ne (by decide)]; exact h.2.1 k a b c, by rw [z_st_ne (by decide)]; exact h.2.2⟩
theorem e12_sign (hB : zB μ0 T L) (h : zH μ0 m p f n j s) (hp : 0 ≤ p) (h1 : L ≤ p → K (-1) m) (h2 : p < L → K (T p) m) : z_ci m_X12_sign [(2, 113)] m d K := by
  have e9 := h.2.2.1
  have e8 : m 113 8 = L := by rw [h.2.1 8 (by decide) (by decide) (by decide)]; exact hB.2.1
  have eT : m 120 p = μ0 120 p := h.1 120 p (by decide) (by decide)
  have hL := hB.2.2
  refine V_X12_sign ?_
  rw [e9, e8, eT]
  refine ⟨h1, fun q => ⟨⟨by omega, by omega⟩, ?_⟩⟩
  rw [(hB.1 p hp q).1]
  exact h2 q
theorem e12_next (hB : zB μ0 T L) (h : zH μ0 m p f n j s) (hp : 0 ≤ p ∧ p ≤ L) (hk : ∀ x m', zH μ0 m' (zr (zb_sp T) L p) f n j s → (zr (zb_sp T) L p < L → x = T (zr (zb_sp T) L p)) → (L ≤ zr (zb_sp T) L p → x = -1) → m' 113 11 = m 113 11 → K x m') : z_ci m_X12_next [(2, 113)] m (d + 1) K := by
  have hL := hB.2.2
  have key : ∀ k, p ≤ k → k ≤ L → ∀ m', zH μ0 m' k f n j s → m' 113 11 = m 113 11 → zr (zb_sp T) L k = zr (zb_sp T) L p → (z_ri m_X12_next 0 [some (2, 113)] m' (d + 1) K ∧ z_ci m_X12_next [(2, 113)] m' (d + 1) K) := by
    refine z_up (fun k h1 h2 ih m' hm h11 he => ?_)
    have vc : z_ci m_X12_sign [(2, 113)] m' d (fun x3 m1 => (¬ x3 = 32 → z_ci m_X12_sign [(2, 113)] m1 d (fun x8 m6 => K x8 m6)) ∧ (x3 = 32 → z_I ((m1 113 9) + 1) ∧ (z_ri m_X12_next 0 [some (2, 113)] (z_st m1 113 9 ((m1 113 9) + 1)) (d + 1) K))) := by
      have e9 := hm.2.2.1
      refine e12_sign hB hm (by omega) (fun q => ⟨fun _ => e12_sign hB hm (by omega) (fun _ => ?_) (fun r => by omega), fun r => absurd r (by decide)⟩) (fun q => ⟨fun r => e12_sign hB hm (by omega) (fun r => by omega) (fun _ => ?_), fun r => ⟨⟨by omega, by omega⟩, ?_⟩⟩)
      · have e : zr (zb_sp T) L p = k := by rw [← he]; exact zr_no (by omega)
        refine hk _ m' (by rw [e]; exact hm) (fun q => by omega) (fun _ => rfl) h11
      · have e : zr (zb_sp T) L p = k := by rw [← he]; exact zr_no (by unfold zb_sp; rw [decide_eq_true_eq]; exact fun x => r x.2)
        refine hk _ m' (by rw [e]; exact hm) (fun _ => by rw [e]) (fun q => by omega) h11
      · rw [e9]
        exact (ih q _ (zH_at hm (k + 1)) (by rw [z_st_ni (by decide)]; exact h11) (by rw [← he]; exact (zr_y q (by unfold zb_sp; rw [decide_eq_true_eq]; exact r)).symm)).1
    exact ⟨V_X12_next_0 vc, V_X12_next vc⟩
  exact (key p (Int.le_refl p) hp.2 m h rfl rfl).2
theorem e12_fails {k q : Int} (h : zH μ0 m p (-1) n j s) (hq : 0 ≤ q ∧ q ≤ 200) (hk : 0 ≤ k ∧ k ≤ 9) (hd : zH μ0 (z_st m 113 10 (8 * q + k)) p (8 * q + k) n j s → Kn (z_st m 113 10 (8 * q + k))) : z_cn m_X12_fails [(2, 113), (0, k), (0, q)] m (d + 1) Kn :=
  V_X12_fails (e_isRight (fun _ => zy1' ⟨⟨by omega, by omega⟩, ⟨by omega, by omega⟩, hd (zH_fl h _)⟩) (fun x => absurd h.2.2.2.1 x))
theorem e12_takesCube (hB : zB μ0 T L) (h : zH μ0 m p f n j s) (hp : 0 ≤ p ∧ p ≤ L) (hb : zr (zb_sp T) L p = p) (hy : zp_w T p (zr (zb_le T) L p) → ∀ m', zH μ0 m' (zr (zb_le T) L p) f n j s → K 1 m') (hn : ¬ zp_w T p (zr (zb_le T) L p) → ∀ m', zH μ0 m' p f n j s → K 0 m') : z_ci m_X12_takesCube [(2, 113)] m (d + 2) K := by
  have hL := hB.2.2
  have key : ∀ k, p ≤ k → k ≤ L → ∀ m', zH μ0 m' p f n j s → zr (zb_le T) L k = zr (zb_le T) L p → z_ri m_X12_takesCube 7 [some (2, 113), some (0, k - p), none] m' (d + 2) K := by
    refine z_up (fun k h1 h2 ih m' hm he => ?_)
    have e9 := hm.2.2.1
    have e8 : m' 113 8 = L := by rw [hm.2.1 8 (by decide) (by decide) (by decide)]; exact hB.2.1
    have eT : ∀ i, m' 120 i = μ0 120 i := fun i => hm.1 120 i (by decide) (by decide)
    have tk : k < L → μ0 120 k % 256 = T k ∧ -128 ≤ μ0 120 k ∧ μ0 120 k ≤ 127 := fun q => hB.1 k (by omega) q
    have t0 : p < L → μ0 120 p % 256 = T p ∧ -128 ≤ μ0 120 p ∧ μ0 120 p ≤ 127 := fun q => hB.1 p (by omega) q
    have t1 : p + 1 < L → μ0 120 (p + 1) % 256 = T (p + 1) ∧ -128 ≤ μ0 120 (p + 1) ∧ μ0 120 (p + 1) ≤ 127 := fun q => hB.1 _ (by omega) q
    have t2 : p + 2 < L → μ0 120 (p + 2) % 256 = T (p + 2) ∧ -128 ≤ μ0 120 (p + 2) ∧ μ0 120 (p + 2) ≤ 127 := fun q => hB.1 _ (by omega) q
    have t3 : p + 3 < L → μ0 120 (p + 3) % 256 = T (p + 3) ∧ -128 ≤ μ0 120 (p + 3) ∧ μ0 120 (p + 3) ≤ 127 := fun q => hB.1 _ (by omega) q
    have g0 : ¬ (k < L ∧ 97 ≤ T k ∧ T k ≤ 122) → ¬ (k - p = 4 ∧ T p = 99 ∧ T (p + 1) = 117 ∧ T (p + 2) = 98 ∧ T (p + 3) = 101) → K 0 (z_st m' 113 9 (p + 0)) := fun a b => by
      have e : zr (zb_le T) L p = k := by rw [← he]; exact zr_no (by unfold zb_le; rw [decide_eq_true_eq]; exact a)
      have := zH_at hm (p + 0)
      rw [show p + 0 = p by omega] at this ⊢
      exact hn (by rw [e]; exact b) _ this
    have g1 : ¬ (k < L ∧ 97 ≤ T k ∧ T k ≤ 122) → (k - p = 4 ∧ T p = 99 ∧ T (p + 1) = 117 ∧ T (p + 2) = 98 ∧ T (p + 3) = 101) → K 1 (z_st m' 113 9 (p + (k - p))) := fun a b => by
      have e : zr (zb_le T) L p = k := by rw [← he]; exact zr_no (by unfold zb_le; rw [decide_eq_true_eq]; exact a)
      have := zH_at hm (p + (k - p))
      rw [show p + (k - p) = k by omega] at this ⊢
      exact hy (by rw [e]; exact b) _ (by rw [e]; exact this)
    refine V_X12_takesCube_7 ?_
    rw [e9, e8]
    simp only [eT]
    refine ⟨⟨by omega, by omega⟩, fun q1 => ⟨fun q2 => ⟨⟨by omega, by omega⟩, ?_⟩, fun q3 => ⟨⟨by omega, by omega⟩, fun q4 => ⟨⟨by omega, by omega⟩, ?_⟩, fun q5 => ⟨⟨by omega, by omega⟩, ⟨by omega, by omega⟩, fun q6 => ⟨⟨by omega, by omega⟩, ?_⟩, fun q7 => ⟨⟨by omega, by omega⟩, ⟨by omega, by omega⟩, fun q8 => ⟨⟨by omega, by omega⟩, ?_⟩, fun q9 => ⟨⟨by omega, by omega⟩, ⟨by omega, by omega⟩, fun q10 => ⟨⟨by omega, by omega⟩, ?_⟩, fun q11 => ⟨⟨by omega, by omega⟩, ?_⟩⟩⟩⟩⟩⟩, fun q12 => ⟨⟨by omega, by omega⟩, ⟨by omega, by omega⟩, ?_⟩⟩
    all_goals try first | exact g0 (by omega) (by omega) | exact g1 (by omega) (by omega)
    rw [show p + (k - p) = k by omega] at *
    refine e_in (fun r => ?_) (fun r => ?_)
    · simp only [e9, eT]
      refine ⟨fun _ => ?_, fun x => absurd trivial x⟩
      have r' : ¬ (k < L ∧ 97 ≤ T k ∧ T k ≤ 122) := by have := tk (by omega); omega
      refine ⟨fun q2 => ⟨⟨by omega, by omega⟩, g0 r' (by omega)⟩, fun q3 => ⟨⟨by omega, by omega⟩, fun q4 => ⟨⟨by omega, by omega⟩, g0 r' (by omega)⟩, fun q5 => ⟨⟨by omega, by omega⟩, ⟨by omega, by omega⟩, fun q6 => ⟨⟨by omega, by omega⟩, g0 r' (by omega)⟩, fun q7 => ⟨⟨by omega, by omega⟩, ⟨by omega, by omega⟩, fun q8 => ⟨⟨by omega, by omega⟩, g0 r' (by omega)⟩, fun q9 => ⟨⟨by omega, by omega⟩, ⟨by omega, by omega⟩, fun q10 => ⟨⟨by omega, by omega⟩, g0 r' (by omega)⟩, fun q11 => ⟨⟨by omega, by omega⟩, ?_⟩⟩⟩⟩⟩⟩
      rw [show p + (k - p) = k by omega]
      exact g1 r' (by omega)
    · refine ⟨fun x => absurd x (by decide), fun _ => ⟨⟨by omega, by omega⟩, ?_⟩⟩
      rw [show k - p + 1 = k + 1 - p by omega]
      exact ih (by omega) m' hm (by rw [← he]; exact (zr_y (by omega) (by unfold zb_le; rw [decide_eq_true_eq]; have := tk (by omega); omega)).symm)
  refine V_X12_takesCube (e12_next hB h hp (fun x m' hm _ _ _ => ?_))
  rw [hb] at hm
  have := key p (Int.le_refl p) hp.2 m' hm rfl
  rw [show p - p = 0 by omega] at this
  exact this
end PD

/-! the class's reader as a whole -/
/-- the reader stands at p, behind n cubes, with j coordinates told as in s -/
def zR (μ0 m : z_Mem) (L p n j : Int) (s : Int → Int) : Prop := (∀ o i, o ≠ 3 → o ≠ 4 → m o i = μ0 o i) ∧ m 3 2 = 2 ∧ m 3 3 = L ∧ m 3 4 = p ∧ m 3 1 = n ∧ z_ag (m 4) s j ∧ z_c6 s j
section PC
variable {μ0 m : z_Mem} {L p n j : Int} {s : Int → Int} {d : Nat} {K : Int → z_Mem → Prop}
theorem zR_T (h : zR μ0 m L p n j s) : m 2 = μ0 2 := funext fun i => h.1 2 i (by decide) (by decide)
theorem zR_at (h : zR μ0 m L p n j s) (q : Int) : zR μ0 (z_st m 3 4 q) L q n j s := by
  obtain ⟨h1, h2, h3, h4, h5, h6, h7⟩ := h
  refine ⟨fun o i a b => by rw [z_st_ne a]; exact h1 o i a b, by rw [z_st_ni (by decide)]; exact h2, by rw [z_st_ni (by decide)]; exact h3, z_st_eq, by rw [z_st_ni (by decide)]; exact h5, fun i a b => ?_, h7⟩
  rw [z_st_ne (by decide)]
  exact h6 i a b
theorem zR_put (h : zR μ0 m L p n j s) {v : Int} (hv : 0 ≤ v ∧ v ≤ 6) : zR μ0 (z_st m 4 j v) L p n (j + 1) (zs_up s j v) := by
  obtain ⟨h1, h2, h3, h4, h5, h6, h7⟩ := h
  refine ⟨fun o i a b => by rw [z_st_ne b]; exact h1 o i a b, by rw [z_st_ne (by decide)]; exact h2, by rw [z_st_ne (by decide)]; exact h3, by rw [z_st_ne (by decide)]; exact h4, by rw [z_st_ne (by decide)]; exact h5, fun i a b => ?_, fun i a b => ?_⟩
  · unfold zs_up
    by_cases q : i = j
    · subst q
      rw [z_st_eq, if_pos rfl]
    · rw [z_st_ni q, if_neg q]
      exact h6 i a (by omega)
  · unfold zs_up
    by_cases q : i = j
    · rw [if_pos q]
      exact hv
    · rw [if_neg q]
      exact h7 i a (by omega)
theorem zR_more (h : zR μ0 m L p n j s) (q : Int) : zR μ0 (z_st m 3 1 q) L p q j s := by
  obtain ⟨h1, h2, h3, h4, h5, h6, h7⟩ := h
  refine ⟨fun o i a b => by rw [z_st_ne a]; exact h1 o i a b, by rw [z_st_ni (by decide)]; exact h2, by rw [z_st_ni (by decide)]; exact h3, by rw [z_st_ni (by decide)]; exact h4, z_st_eq, fun i a b => ?_, h7⟩
  rw [z_st_ne (by decide)]
  exact h6 i a b
theorem zR_c6 (h : zR μ0 m L p n j s) : z_c6 (m 4) j := fun i a b => by rw [h.2.2.2.2.2.1 i a b]; exact h.2.2.2.2.2.2 i a b
theorem zc_st_ag {s t : Int → Int} {n : Int} (h : z_ag s t (3 * n + 3)) (hn : 0 ≤ n) : zc_st s n ↔ zc_st t n := by
  have e : ∀ o, 0 ≤ o → o < n → z_di s n o = z_di t n o := fun o h1 h2 => z_ag_di h (by omega) (by omega)
  constructor
  · rintro ⟨h1, h2⟩
    refine ⟨fun o a b => by rw [← e o a b]; exact h1 o a b, h2.imp id (fun ⟨o, a, b, c⟩ => ⟨o, a, b, by rw [← e o a b]; exact c⟩)⟩
  · rintro ⟨h1, h2⟩
    refine ⟨fun o a b => by rw [e o a b]; exact h1 o a b, h2.imp id (fun ⟨o, a, b, c⟩ => ⟨o, a, b, by rw [e o a b]; exact c⟩)⟩
theorem zc_so_ag {s t : Int → Int} {n : Int} (h : z_ag s t (3 * n)) : zc_so s n ↔ zc_so t n := by
  have e : ∀ a b, 0 ≤ a → a < n → 0 ≤ b → b < n → z_di s a b = z_di t a b := fun a b h1 h2 h3 h4 => z_ag_di h (by omega) (by omega)
  have e1 : ∀ a b c, 0 ≤ a → a < n → 0 ≤ b → b < n → 0 ≤ c → c < 3 → z_ap s a b c = z_ap t a b c := fun a b c h1 h2 h3 h4 h5 h6 => z_ag_ap h (by omega) (by omega) (by omega)
  have k1 : ∀ a b, 0 ≤ b → b < a → a < n → (zc_sk s a b ↔ zc_sk t a b) := fun a b h1 h2 h3 => by
    unfold zc_sk
    rw [e a b (by omega) h3 h1 (by omega), e1 a b 0 (by omega) h3 h1 (by omega) (by omega) (by omega), e1 a b 1 (by omega) h3 h1 (by omega) (by omega) (by omega), e1 a b 2 (by omega) h3 h1 (by omega) (by omega) (by omega)]
  have k2 : ∀ a b, 0 ≤ b → b < a → a < n → (zc_th s n a b ↔ zc_th t n a b) := fun a b h1 h2 h3 => by
    constructor
    · rintro ⟨t', c1, c2, c3, c4⟩
      exact ⟨t', c1, c2, by rw [← e a t' (by omega) h3 c1 c2]; exact c3, by rw [← e t' b c1 c2 h1 (by omega)]; exact c4⟩
    · rintro ⟨t', c1, c2, c3, c4⟩
      exact ⟨t', c1, c2, by rw [e a t' (by omega) h3 c1 c2]; exact c3, by rw [e t' b c1 c2 h1 (by omega)]; exact c4⟩
  constructor
  · intro h a b h1 h2 h3 h4
    exact (k2 a b h1 h2 h3).mp (h a b h1 h2 h3 ((k1 a b h1 h2 h3).mpr h4))
  · intro h a b h1 h2 h3 h4
    exact (k2 a b h1 h2 h3).mpr (h a b h1 h2 h3 ((k1 a b h1 h2 h3).mp h4))
theorem e_axes (hL : 0 ≤ L ∧ L ≤ 200) (hn : 0 ≤ n ∧ n < 7) : ∀ (k : Nat) (c : Int) (m : z_Mem) (s : Int → Int) (p l : Int), (k : Int) + c = 3 → 0 ≤ c → zR μ0 m L p n (3 * n + c) s → 0 ≤ p → p ≤ L → (0 ≤ l ∧ l ≤ L) → (∀ s' p' l' m', zq_ax (μ0 2) L k n c s p l (-1) s' p' l' → zR μ0 m' L p' n (3 * n + 3) s' → 0 ≤ p' → p' ≤ L → (0 ≤ l' ∧ l' ≤ L) → z_ri m_X4_readCube 37 [some (2, 3), some (0, l'), some (0, 3), none] m' (d + 4) K) → (∀ f s' p' l' m', zq_ax (μ0 2) L k n c s p l f s' p' l' → 0 ≤ f → f ≤ 2000 → (∀ o i, o ≠ 3 → o ≠ 4 → m' o i = μ0 o i) → K f m') → z_ri m_X4_readCube 37 [some (2, 3), some (0, l), some (0, c), none] m (d + 4) K := by
  intro k
  induction k with
  | zero =>
    intro c m s p l hk hc hR hp hpL hl hdone hf
    obtain rfl : c = 3 := by omega
    exact hdone s p l m ⟨rfl, rfl, rfl, rfl⟩ hR hp hpL hl
  | succ k ih =>
    intro c m s p l hk hc hR hp hpL hl hdone hf
    have hT := zR_T hR
    have e3 := hR.2.2.1
    have e4 := hR.2.2.2.1
    have hb := zr_le (P := zb_sp (μ0 2)) (L := L) (p := p) hpL
    have he := zr_le (P := zb_di (μ0 2)) (L := L) (p := zr (zb_sp (μ0 2)) L p) hb.2
    refine V_X4_readCube_37 ⟨fun q1 => by omega, fun q2 => ?_⟩
    refine e_toNext (by omega) (by omega) hR.2.1 ?_
    rw [hT, e3, e4]
    generalize hbe : zr (zb_sp (μ0 2)) L p = b at hb he
    have hR2 := zR_at hR b
    have hT2 := zR_T hR2
    have e23 := hR2.2.2.1
    have e24 := hR2.2.2.2.1
    have e21 := hR2.2.2.2.2.1
    generalize hm2 : z_st m 3 4 b = m2 at hR2 hT2 e23 e24 e21
    refine e_passNumber (by omega) (by omega) hR2.2.1 (fun h0 => ?_) (fun x h1 hx => ?_)
    · rw [hT2, e23, e24] at h0
      refine ⟨fun q => absurd rfl q, fun _ => ⟨⟨by omega, by omega⟩, ⟨by omega, by omega⟩, ?_⟩⟩
      exact hf _ s 0 0 m2 (Or.inl ⟨by rw [hbe]; exact h0, by rw [hbe]⟩) (by omega) (by omega) hR2.1
    · rw [hT2, e23, e24] at h1 hx ⊢
      generalize hee : zr (zb_di (μ0 2)) L b = e at h1 hx he
      generalize hve : zv (μ0 2) e b 0 = v at hx
      have hR3 := zR_at hR2 e
      unfold zj_num at hx
      refine ⟨fun _ => ⟨fun q => ?_, fun q => ⟨⟨by omega, by omega⟩, ⟨by omega, by omega⟩, ?_⟩⟩, fun q => by omega⟩
      · have hxv : x = v := by omega
        subst hxv
        rw [show z_st m2 3 4 e 3 1 = n from hR3.2.2.2.2.1]
        refine ⟨⟨by omega, by omega⟩, ⟨by omega, by omega⟩, ⟨by omega, by omega⟩, ⟨by omega, by omega⟩, ?_⟩
        have hR4 := zR_put hR3 (v := x) (by omega)
        refine ih (c + 1) _ _ e b (by omega) (by omega) (by rw [show 3 * n + (c + 1) = 3 * n + c + 1 by omega]; exact hR4) (by omega) (by omega) (by omega) (fun s' p' l' m' h => hdone s' p' l' m' (Or.inr (Or.inr ?_))) (fun f s' p' l' m' h => hf f s' p' l' m' (Or.inr (Or.inr ?_)))
        · rw [hbe, hee, hve]
          exact ⟨h1, by omega, by omega, h⟩
        · rw [hbe, hee, hve]
          exact ⟨h1, by omega, by omega, h⟩
      · exact hf _ s 0 0 _ (Or.inr (Or.inl ⟨by rw [hbe, hee]; exact h1, by rw [hbe, hee, hve]; omega, by rw [hbe]⟩)) (by omega) (by omega) hR3.1
theorem e_readCube (hL : 0 ≤ L ∧ L ≤ 200) (hn : 0 ≤ n ∧ n ≤ 7) (hR : zR μ0 m L p n (3 * n) s) (hp : 0 ≤ p ∧ p ≤ L) (h : ∀ f s' p' m', zq_cu (μ0 2) L n s p f s' p' → (∀ o i, o ≠ 3 → o ≠ 4 → m' o i = μ0 o i) → (f = -1 → n < 7 ∧ zR μ0 m' L p' (n + 1) (3 * (n + 1)) s' ∧ 0 ≤ p' ∧ p' ≤ L) → (f = -1 ∨ 0 ≤ f ∧ f ≤ 2000) → K f m') : z_ci m_X4_readCube [(2, 3)] m (d + 4) K := by
  have hT := zR_T hR
  have e3 := hR.2.2.1
  have e4 := hR.2.2.2.1
  have hb := zr_le (P := zb_sp (μ0 2)) (L := L) (p := p) hp.2
  have he := zr_le (P := zb_le (μ0 2)) (L := L) (p := zr (zb_sp (μ0 2)) L p) hb.2
  refine V_X4_readCube (e_toNext (by omega) (by omega) hR.2.1 ?_)
  rw [hT, e3, e4]
  unfold zq_cu at h
  generalize hbe : zr (zb_sp (μ0 2)) L p = b at hb he h
  have hR2 := zR_at hR b
  have hT2 := zR_T hR2
  have e23 := hR2.2.2.1
  have e24 := hR2.2.2.2.1
  generalize hm2 : z_st m 3 4 b = m2 at hR2 hT2 e23 e24
  refine e_passWord (by omega) (by omega) hR2.2.1 (fun hw => ?_) (fun hw => ?_)
  · rw [hT2, e23, e24] at hw ⊢
    generalize hee : zr (zb_le (μ0 2)) L b = e at hw he h
    have hR3 := zR_at hR2 e
    refine zy1 ⟨fun q1 => ?_, fun q1 => ⟨⟨by omega, by omega⟩, ⟨by omega, by omega⟩, ?_⟩⟩
    · rw [show z_st m2 3 4 e 3 1 = n from hR3.2.2.2.2.1] at q1
      refine e_axes hL ⟨hn.1, q1⟩ 3 0 _ s e b (by omega) (by omega) (by rw [show 3 * n + 0 = 3 * n by omega]; exact hR3) (by omega) (by omega) (by omega) (fun s' p' l' m' hq hR4 h1 h2 h3 => ?_) (fun f s' p' l' m' hq h1 h2 h3 => ?_)
      · have hax : ∀ l0, zq_ax (μ0 2) L 3 n 0 s e l0 (-1) s' p' l' := fun l0 => hq
        have e41 := hR4.2.2.2.2.1
        have hc := zR_c6 hR4
        have hag := zc_st_ag (n := n) hR4.2.2.2.2.2.1 hn.1
        refine V_X4_readCube_37 ⟨fun _ => ?_, fun q => by omega⟩
        rw [e41]
        refine e_canStand ⟨hn.1, q1⟩ hc (fun hy => zy1 ?_) (fun hy => zy0 ⟨⟨by omega, by omega⟩, ⟨by omega, by omega⟩, ?_⟩)
        · rw [e41]
          refine ⟨⟨by omega, by omega⟩, h (-1) s' p' _ (Or.inr (Or.inr ⟨hw, q1, -1, l', hax 0, Or.inr (Or.inr ⟨rfl, hag.mp hy, rfl⟩)⟩)) ?_ (fun _ => ⟨q1, ?_, h1, h2⟩) (Or.inl rfl)⟩
          · exact (zR_more hR4 (n + 1)).1
          · have := zR_more hR4 (n + 1)
            rw [show 3 * n + 3 = 3 * (n + 1) by omega] at this
            exact this
        · exact h _ s' p' _ (Or.inr (Or.inr ⟨hw, q1, -1, l', hax 0, Or.inr (Or.inl ⟨rfl, fun hz => hy (hag.mpr hz), rfl⟩)⟩)) hR4.1 (fun q => by omega) (Or.inr ⟨by omega, by omega⟩)
      · exact h f s' p' _ (Or.inr (Or.inr ⟨hw, q1, f, l', hq, Or.inl ⟨by omega, rfl⟩⟩)) h3 (fun q => by omega) (Or.inr ⟨h1, h2⟩)
    · rw [show z_st m2 3 4 e 3 1 = n from hR3.2.2.2.2.1] at q1
      exact h _ s 0 _ (Or.inr (Or.inl ⟨hw, q1, rfl⟩)) hR3.1 (fun q => by omega) (Or.inr ⟨by omega, by omega⟩)
  · rw [hT2, e23, e24] at hw ⊢
    refine zy0 ⟨⟨by omega, by omega⟩, ⟨by omega, by omega⟩, ?_⟩
    exact h _ s 0 _ (Or.inl ⟨hw, rfl⟩) (zR_at hR2 _).1 (fun q => by omega) (Or.inr ⟨by omega, by omega⟩)
theorem e_reads (hL : 0 ≤ L ∧ L ≤ 200) : ∀ (k : Nat) (n : Int) (m : z_Mem) (s : Int → Int) (p : Int), (k : Int) + n = 8 → 0 ≤ n → zR μ0 m L p n (3 * n) s → 0 ≤ p → p ≤ L → (∀ f n' s' m', zq_re (μ0 2) L k n s p f n' s' → (∀ o i, o ≠ 3 → o ≠ 4 → m' o i = μ0 o i) → (f = -1 → m' 3 1 = n' ∧ 1 ≤ n' ∧ n' ≤ 7 ∧ z_ag (m' 4) s' (3 * n') ∧ z_c6 s' (3 * n')) → (f = -1 ∨ 0 ≤ f ∧ f ≤ 2000) → K f m') → n ≤ 7 → z_ri m_X4_read 27 [some (2, 3), none, none, some (0, n), none] m (d + 5) K := by
  intro k
  induction k with
  | zero =>
    intro n m s p hk hn hR hp hpL h hn7
    omega
  | succ k ih =>
    intro n m s p hk hn hR hp hpL h hn7
    refine V_X4_read_27 ⟨fun q => by omega, fun _ => ?_⟩
    refine e_readCube hL ⟨hn, hn7⟩ hR ⟨hp, hpL⟩ (fun f s1 p1 m1 hq hfr hok hf => ⟨fun q1 => ?_, fun q1 => ?_⟩)
    · subst q1
      obtain ⟨a1, a2, a3, a4⟩ := hok rfl
      have hT := zR_T a2
      have e3 := a2.2.2.1
      have e4 := a2.2.2.2.1
      refine e_toNext (by omega) (by omega) a2.2.1 ?_
      rw [hT, e3, e4]
      have hb := zr_le (P := zb_sp (μ0 2)) (L := L) (p := p1) a4
      have fin : ∀ f n' s', _ → zq_re (μ0 2) L (k + 1) n s p f n' s' := fun f n' s' hh => ⟨-1, s1, p1, hq, Or.inr hh⟩
      generalize hbe : zr (zb_sp (μ0 2)) L p1 = b at hb fin
      have b1 := zR_at a2 b
      have b3 := b1.2.2.1
      have b4 := b1.2.2.2.1
      have bT := zR_T b1
      have bn := b1.2.2.2.2.1
      generalize hm2 : z_st m1 3 4 b = m2 at b1 b3 b4 bT bn
      refine ⟨fun q1 => ⟨b1.2.1, by rw [b4]; omega, fun q2 => ?_, fun q3 => ?_⟩, fun q4 => ?_⟩
      · rw [b4, bT] at q2
        rw [b3] at q1
        refine ⟨by rw [b4]; exact ⟨by omega, by omega⟩, ⟨by omega, by omega⟩, ?_⟩
        rw [b4]
        refine ih (n + 1) _ s1 (b + 1) (by omega) (by omega) (zR_at b1 (b + 1)) (by omega) (by omega) (fun f n' s' m' hh => h f n' s' m' (fin f n' s' (Or.inr (Or.inr (Or.inr ⟨rfl, by omega, q2, hh⟩))))) (by omega)
      · rw [b4, bT] at q3
        rw [b3] at q1
        rw [b4]
        refine ⟨⟨by omega, by omega⟩, ⟨by omega, by omega⟩, ?_⟩
        exact h _ n s1 _ (fin _ n s1 (Or.inr (Or.inr (Or.inl ⟨rfl, by omega, q3, rfl⟩)))) b1.1 (fun q => by omega) (Or.inr ⟨by omega, by omega⟩)
      · rw [b3] at q4
        subst q4
        have hc := zR_c6 b1
        have hag := zc_so_ag (n := n + 1) b1.2.2.2.2.2.1
        refine e_isSolid (by omega) (by rw [bn]; exact hc) (fun hy => zy1' ?_) (fun hy => zy0' ?_)
        · rw [bn] at hy
          exact h (-1) (n + 1) s1 _ (fin _ _ _ (Or.inl ⟨rfl, rfl, hag.mp hy, rfl, rfl, rfl⟩)) b1.1 (fun _ => ⟨bn, by omega, by omega, b1.2.2.2.2.2.1, b1.2.2.2.2.2.2⟩) (Or.inl rfl)
        · rw [bn] at hy
          rw [b3]
          refine ⟨⟨by omega, by omega⟩, ⟨by omega, by omega⟩, ?_⟩
          exact h _ n s1 _ (fin _ n s1 (Or.inr (Or.inl ⟨rfl, rfl, fun hz => hy (hag.mpr hz), rfl⟩))) b1.1 (fun q => by omega) (Or.inr ⟨by omega, by omega⟩)
    · exact h f n s m1 ⟨f, s1, p1, hq, Or.inl ⟨q1, rfl⟩⟩ hfr (fun q => absurd q q1) hf
theorem e_read (hL : 0 ≤ L ∧ L ≤ 200) (h : ∀ f n' s' m', zq_re (μ0 2) L 8 0 (fun _ => 0) 0 f n' s' → (∀ o i, o ≠ 3 → o ≠ 4 → m' o i = μ0 o i) → (f = -1 → m' 3 1 = n' ∧ 1 ≤ n' ∧ n' ≤ 7 ∧ z_ag (m' 4) s' (3 * n') ∧ z_c6 s' (3 * n')) → (f = -1 ∨ 0 ≤ f ∧ f ≤ 2000) → K f m') : z_ci m_X4_read [(2, 3), (2, 2), (0, L)] μ0 (d + 5) K := by
  refine V_X4_read ?_
  refine e_reads hL 8 0 _ (fun _ => 0) 0 (by decide) (by decide) ?_ (by omega) hL.1 h (by decide)
  refine ⟨fun o i a b => by rw [z_st_ne a, z_st_ne a, z_st_ne a, z_st_ne a], ?_, ?_, ?_, z_st_eq, fun i a b => by omega, fun i a b => by omega⟩
  · rw [z_st_ni (by decide), z_st_ni (by decide), z_st_ni (by decide), z_st_eq]
  · rw [z_st_ni (by decide), z_st_ni (by decide), z_st_eq]
    omega
  · rw [z_st_ni (by decide), z_st_eq]
end PC

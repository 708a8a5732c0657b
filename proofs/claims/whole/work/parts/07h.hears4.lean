/-! the reference's reader: it keeps the same relation -/
section PG
variable {μ0 : z_Mem} {T : Int → Int} {L n : Int} {d : Nat} {K : Int → z_Mem → Prop} {Kn : z_Mem → Prop}
theorem e12_bad {m : z_Mem} {f c : Int} (hf : ¬ f = -1) (h : zF μ0 m f) (h0 : m 115 0 = n) (hn : 0 ≤ n ∧ n ≤ 7) (hk : ∀ m', zF μ0 m' f → Kn m') : z_rn m_X12_readsPart 52 [some (2, 113), none, some (0, n), some (0, c)] m (d + 1) Kn := by
  have e : ¬ m 113 10 = -1 := by rw [h.2.2]; exact hf
  have fin : z_I (m 115 0 + 1) ∧ Kn (z_st m 115 0 (m 115 0 + 1)) := ⟨⟨by omega, by omega⟩, hk _ (zF_115 h _ _)⟩
  exact V_X12_readsPart_52 ⟨fun _ => e_isRight (fun q => absurd q e) (fun _ => zy0' fin), fun _ => e_isRight (fun q => absurd q e) (fun _ => zy0' (e_isRight (fun q => absurd q e) (fun _ => zy0' fin)))⟩
theorem e12_axes (hB : zB μ0 T L) (hTb : ∀ i, 0 ≤ i → i < L → 0 ≤ T i ∧ T i ≤ 255) (hn : 0 ≤ n ∧ n < 7) (f : Int) (s' : Int → Int) (p' l' : Int) (hbad : ¬ f = -1 → ∀ m', zF μ0 m' f → Kn m') (hdone : f = -1 → ∀ m', zH μ0 m' p' (-1) n (3 * n + 3) s' → 0 ≤ p' → p' ≤ L → 0 ≤ l' → l' ≤ L → m' 113 11 = l' → z_rn m_X12_readsPart 52 [some (2, 113), none, some (0, n), some (0, 3)] m' (d + 3) Kn) : ∀ (k : Nat) (c : Int) (m : z_Mem) (s : Int → Int) (p l : Int), (k : Int) + c = 3 → 0 ≤ c → zq_ax T L k n c s p l f s' p' l' → zH μ0 m p (-1) n (3 * n + c) s → 0 ≤ p → p ≤ L → (k = 0 → m 113 11 = l ∧ 0 ≤ l ∧ l ≤ L) → z_rn m_X12_readsPart 52 [some (2, 113), none, some (0, n), some (0, c)] m (d + 3) Kn := by
  intro k
  induction k with
  | zero =>
    intro c m s p l hk hc hq h hp hpL hl
    obtain rfl : c = 3 := by omega
    obtain ⟨h1, h2, h3, h4⟩ := hq
    obtain ⟨l1, l2, l3⟩ := hl rfl
    subst h2 h3 h4
    exact hdone h1 m h hp hpL l2 l3 l1
  | succ k ih =>
    intro c m s p l hk hc hq h hp hpL hl
    have hL := hB.2.2
    have hbL := zr_le (P := zb_sp T) (L := L) (p := p) hpL
    have heL := zr_le (P := zb_di T) (L := L) (p := zr (zb_sp T) L p) hbL.2
    unfold zq_ax at hq
    generalize hb : zr (zb_sp T) L p = b at hq hbL heL
    generalize he : zr (zb_di T) L b = e at hq heL
    generalize hv : zv T e b 0 = v at hq
    refine V_X12_readsPart_52 ⟨fun q => by omega, fun q2 => e_isRight (fun _ => zy1' ⟨⟨by omega, by omega⟩, ⟨by omega, by omega⟩, ⟨by omega, by omega⟩, ?_⟩) (fun x => absurd h.2.2.2.1 x)⟩
    refine e12_number hB hTb h ⟨hp, hpL⟩ hb he hv (fun g1 m' hm => ⟨⟨by omega, by omega⟩, ⟨by omega, by omega⟩, ?_⟩) (fun g1 g2 x m' hm x1 x2 => ⟨⟨by omega, by omega⟩, ⟨by omega, by omega⟩, ?_⟩) (fun g1 g2 g3 m' hm h11 => ⟨⟨by omega, by omega⟩, ⟨by omega, by omega⟩, ?_⟩)
    · have hf : f = 8 * b + 1 := by
        rcases hq with h | h | h
        · exact h.2
        · omega
        · omega
      subst hf
      exact e12_bad (by omega) (zF_115 (zH_F hm) _ _) (by rw [z_st_ni (by omega)]; exact hm.2.2.2.2.1) (by omega) (hbad (by omega))
    · have hf : f = 8 * b + 2 := by
        rcases hq with h | h | h
        · omega
        · exact h.2.2
        · omega
      subst hf
      exact e12_bad (by omega) (zF_115 (zH_F hm) _ _) (by rw [z_st_ni (by omega)]; exact hm.2.2.2.2.1) (by omega) (hbad (by omega))
    · have hz : zq_ax T L k n (c + 1) (zs_up s (3 * n + c) v) e b f s' p' l' := by
        rcases hq with h | h | h
        · omega
        · omega
        · exact h.2.2.2
      have hp2 := zH_put hm (v := v) (by omega) ⟨g2, g3⟩
      refine ih (c + 1) _ _ e b (by omega) (by omega) hz ?_ (by omega) (by omega) (fun _ => ⟨by rw [z_st_ne (by decide)]; exact h11, by omega, by omega⟩)
      rw [show 3 * n + (c + 1) = 3 * n + c + 1 by omega, show 1 + 3 * n + c = 1 + (3 * n + c) by omega]
      exact hp2
theorem e12_part (hB : zB μ0 T L) (hTb : ∀ i, 0 ≤ i → i < L → 0 ≤ T i ∧ T i ≤ 255) (hn : 0 ≤ n ∧ n ≤ 7) {m : z_Mem} {p f p' : Int} {s s' : Int → Int} (h : zH μ0 m p (-1) n (3 * n) s) (hp : 0 ≤ p ∧ p ≤ L) (hq : zq_cu T L n s p f s' p') (ok : f = -1 → n < 7 → ∀ m', zH μ0 m' p' (-1) (n + 1) (3 * (n + 1)) s' → 0 ≤ p' → p' ≤ L → Kn m') (bad : ¬ f = -1 → ∀ m', zF μ0 m' f → Kn m') : z_cn m_X12_readsPart [(2, 113)] m (d + 3) Kn := by
  have hL := hB.2.2
  have hbL := zr_le (P := zb_sp T) (L := L) (p := p) hp.2
  have hid := zr_idem (P := zb_sp T) hp.2
  have heL := zr_le (P := zb_le T) (L := L) (p := zr (zb_sp T) L p) hbL.2
  unfold zq_cu at hq
  refine V_X12_readsPart (e12_next hB h hp (fun x m1 hm1 _ _ _ => ?_))
  generalize hb : zr (zb_sp T) L p = b at hq hbL heL hid hm1
  refine e12_takesCube hB hm1 ⟨by omega, hbL.2⟩ hid (fun hw m2 hm2 => zy1 ⟨fun q => ?_, fun q => ?_⟩) (fun hw m2 hm2 => zy0 ?_)
  · rw [hm2.2.2.2.2.1] at q
    rw [hm2.2.2.2.2.1]
    have h3 : ∃ f1 l, zq_ax T L 3 n 0 s (zr (zb_le T) L b) 0 f1 s' p' l ∧ ((¬ f1 = -1 ∧ f = f1) ∨ (f1 = -1 ∧ ¬ zc_st s' n ∧ f = 8 * l + 4) ∨ (f1 = -1 ∧ zc_st s' n ∧ f = -1)) := by
      rcases hq with h | h | h
      · exact absurd hw h.1
      · omega
      · exact h.2.2
    obtain ⟨f1, l, hax, hf⟩ := h3
    refine e12_axes hB hTb ⟨hn.1, by omega⟩ f1 s' p' l (fun g m' hm => ?_) (fun g m' hm g1 g2 g3 g4 h11 => ?_) 3 0 m2 s _ 0 (by omega) (by omega) hax (by rw [show 3 * n + 0 = 3 * n by omega]; exact hm2) (by omega) heL.2 (fun x => by omega)
    · have ef : f = f1 := by
        rcases hf with h | h | h
        · exact h.2
        · exact absurd h.1 g
        · exact absurd h.1 g
      exact bad (by omega) m' (by rw [ef]; exact hm)
    · refine V_X12_readsPart_52 ⟨fun _ => e_isRight (fun _ => zy1' ?_) (fun x => absurd hm.2.2.2.1 x), fun x => by omega⟩
      refine e12_canStand hm ⟨hn.1, by omega⟩ (fun hy => zy1 ?_) (fun hy => zy0 ?_)
      · rw [hm.2.2.2.2.1]
        have hz := zH_more hm (n + 1)
        rw [show 3 * n + 3 = 3 * (n + 1) by omega] at hz
        have ef : f = -1 := by
          rcases hf with h | h | h
          · exact absurd g h.1
          · exact absurd hy h.2.1
          · exact h.2.2
        exact ⟨⟨by omega, by omega⟩, ok ef (by omega) _ hz g1 g2⟩
      · have ef : f = 8 * l + 4 := by
          rcases hf with h | h | h
          · exact absurd g h.1
          · exact h.2.2
          · exact absurd h.2.1 hy
        rw [h11]
        refine e12_fails hm (by omega) (by omega) (fun hF => ?_)
        refine ⟨by rw [z_st_ne (by decide), hm.2.2.2.2.1]; exact ⟨by omega, by omega⟩, bad (by omega) _ (zF_115 ?_ _ _)⟩
        rw [ef]
        exact zH_F hF
  · rw [hm2.2.2.2.2.1] at q
    have ef : f = 8 * b + 3 := by
      rcases hq with h | h | h
      · exact absurd hw h.1
      · exact h.2.2
      · omega
    rw [hm1.2.2.1]
    refine e12_fails hm2 (by omega) (by omega) (fun hF => ?_)
    rw [hF.2.2.2.2.1]
    exact e12_bad (by omega) (zH_F hF) hF.2.2.2.2.1 hn (by rw [← ef]; exact bad (by omega))
  · have ef : f = 8 * b + 1 := by
      rcases hq with h | h | h
      · exact h.2
      · exact absurd h.1 hw
      · exact absurd h.1 hw
    rw [hm1.2.2.1]
    refine e12_fails hm2 (by omega) (by omega) (fun hF => ?_)
    rw [hF.2.2.2.2.1]
    exact e12_bad (by omega) (zH_F hF) hF.2.2.2.2.1 hn (by rw [← ef]; exact bad (by omega))
end PG

/-! the reference's reader as a whole -/
section PH
variable {μ0 : z_Mem} {T : Int → Int} {L : Int} {d : Nat} {K : Int → z_Mem → Prop}
theorem zH_s {m : z_Mem} {p f n j : Int} {s : Int → Int} (h : zH μ0 m p f n j s) (hn : 0 ≤ n ∧ n ≤ 7) (hj : 3 * n ≤ j) : zHs m n s := by
  refine ⟨h.2.2.2.2.1, hn.1, hn.2, fun a c a1 a2 c1 c2 => ?_⟩
  have e := h.2.2.2.2.2.1 (3 * a + c) (by omega) (by omega)
  have r := h.2.2.2.2.2.2.1 (3 * a + c) (by omega) (by omega)
  refine ⟨?_, r⟩
  rw [← e]
  show _ = m 115 (1 + (3 * a + c))
  rw [show 1 + 3 * a + c = 1 + (3 * a + c) by omega]
theorem e12_reads (hB : zB μ0 T L) (hTb : ∀ i, 0 ≤ i → i < L → 0 ≤ T i ∧ T i ≤ 255) (f n' : Int) (s' : Int → Int) (ok : f = -1 → ∀ m', zH μ0 m' L (-1) n' (3 * n') s' → 1 ≤ n' → n' ≤ 7 → z_ri m_X12_solid 126 [some (2, 113), none] m' (d + 4) K) (bad : ¬ f = -1 → ∀ m', zF μ0 m' f → z_ri m_X12_solid 126 [some (2, 113), none] m' (d + 4) K) : ∀ (k : Nat) (n : Int) (m : z_Mem) (s : Int → Int) (p : Int), 0 ≤ n → n ≤ 7 → zq_re T L k n s p f n' s' → zH μ0 m p (-1) n (3 * n) s → 0 ≤ p → p ≤ L → z_cn m_X12_readsPart [(2, 113)] m (d + 3) (fun m3 => z_ri m_X12_solid 46 [some (2, 113), none] m3 (d + 4) K) := by
  have hL := hB.2.2
  have b126 : ¬ f = -1 → ∀ m', zF μ0 m' f → z_ri m_X12_solid 103 [some (2, 113), none] m' (d + 4) K := fun hf m' h => V_X12_solid_103 (e_isRight (fun q => absurd (by rw [← h.2.2]; exact q) hf) (fun _ => zy0' (bad hf m' h)))
  have b79 : ¬ f = -1 → ∀ m', zF μ0 m' f → z_ri m_X12_solid 79 [some (2, 113), none] m' (d + 4) K := fun hf m' h => V_X12_solid_79 (e_isRight (fun q => absurd (by rw [← h.2.2]; exact q) hf) (fun _ => zy0' (b126 hf m' h)))
  have b46 : ¬ f = -1 → ∀ m', zF μ0 m' f → z_ri m_X12_solid 46 [some (2, 113), none] m' (d + 4) K := fun hf m' h => V_X12_solid_46 (e_isRight (fun q => absurd (by rw [← h.2.2]; exact q) hf) (fun _ => zy0' (b79 hf m' h)))
  intro k
  induction k with
  | zero =>
    intro n m s p hn hn7 hq h hp hpL
    exact hq.elim
  | succ k ih =>
    intro n m s p hn hn7 hq h hp hpL
    obtain ⟨f1, s1, p1, hcu, hre⟩ := hq
    refine e12_part hB hTb ⟨hn, hn7⟩ h ⟨hp, hpL⟩ hcu (fun g gn m1 hm g1 g2 => ?_) (fun g m1 hm => ?_)
    · have hbL := zr_le (P := zb_sp T) (L := L) (p := p1) g2
      have hid := zr_idem (P := zb_sp T) g2
      generalize hb : zr (zb_sp T) L p1 = b at hre hbL hid
      refine V_X12_solid_46 (e_isRight (fun _ => zy1' (e12_next hB hm ⟨g1, g2⟩ (fun x m2 hm2 x1 x2 _ => ?_))) (fun x => absurd hm.2.2.2.1 x))
      rw [hb] at hm2 x1 x2
      rcases hre with hz | hz | hz | hz | hz
      · exact absurd g hz.1
      · obtain ⟨_, z2, z3, z4, z5, z6⟩ := hz
        subst z2 z4 z5 z6
        have ex := x2 (by omega)
        refine ⟨fun _ => V_X12_solid_79 (e_isRight (fun _ => zy1' (e12_next hB hm2 ⟨by omega, by omega⟩ (fun y m3 hm3 y1 y2 _ => ?_))) (fun x => absurd hm2.2.2.2.1 x)), fun q => by omega⟩
        rw [hid] at hm3 y1 y2
        have ey := y2 (by omega)
        refine ⟨fun _ => V_X12_solid_103 (e_isRight (fun _ => zy1' (e12_isSolid (zH_s hm3 (by omega) (by omega)) (fun _ => zy1 (ok rfl m3 hm3 (by omega) (by omega))) (fun q => absurd z3 q))) (fun x => absurd hm3.2.2.2.1 x)), fun q => absurd ey q⟩
      · obtain ⟨_, z2, z3, z4⟩ := hz
        subst z2
        have ex := x2 (by omega)
        refine ⟨fun _ => V_X12_solid_79 (e_isRight (fun _ => zy1' (e12_next hB hm2 ⟨by omega, by omega⟩ (fun y m3 hm3 y1 y2 _ => ?_))) (fun x => absurd hm2.2.2.2.1 x)), fun q => by omega⟩
        rw [hid] at hm3 y1 y2
        have ey := y2 (by omega)
        refine ⟨fun _ => V_X12_solid_103 (e_isRight (fun _ => zy1' (e12_isSolid (zH_s hm3 (by omega) (by omega)) (fun q => absurd q z3) (fun _ => zy0 ?_))) (fun x => absurd hm3.2.2.2.1 x)), fun q => absurd ey q⟩
        have e8 : m3 113 8 = b := by rw [hm3.2.1 8 (by decide) (by decide) (by decide)]; exact hB.2.1
        rw [e8]
        refine e12_fails hm3 (by omega) (by omega) (fun hF => bad (by omega) _ ?_)
        rw [z4]
        exact zH_F hF
      · obtain ⟨_, z2, z3, z4⟩ := hz
        have ex := x1 z2
        refine ⟨fun _ => V_X12_solid_79 (e_isRight (fun _ => zy1' (e12_next hB hm2 ⟨by omega, by omega⟩ (fun y m3 hm3 y1 y2 _ => ?_))) (fun x => absurd hm2.2.2.2.1 x)), fun q => by omega⟩
        rw [hid] at hm3 y1 y2
        have ey := y1 z2
        have hb0 := hTb b (by omega) z2
        refine ⟨fun q => by omega, fun _ => ?_⟩
        rw [hm3.2.2.1]
        refine e12_fails hm3 (by omega) (by omega) (fun hF => b126 (by omega) _ ?_)
        rw [z4]
        exact zH_F hF
      · obtain ⟨_, z2, z3, z4⟩ := hz
        have ex := x1 z2
        refine ⟨fun q => by omega, fun _ => ⟨by rw [hm2.2.2.1]; exact ⟨by omega, by omega⟩, ?_⟩⟩
        rw [hm2.2.2.1]
        exact ih (n + 1) _ s1 (b + 1) (by omega) (by omega) z4 (zH_at hm2 (b + 1)) (by omega) (by omega)
    · have ef : f = f1 := by
        rcases hre with h | h | h | h | h
        · exact h.2
        · exact absurd h.1 g
        · exact absurd h.1 g
        · exact absurd h.1 g
        · exact absurd h.1 g
      exact b46 (by omega) m1 (by rw [ef]; exact hm)
end PH

/-! the plane: the reference -/
section PL
variable {F r a b f k : Int} {ac ed es X Y T X' Y' T' : Int → Int} {H : Int → Bool} {L : List Int} {μ μ0 : z_Mem} {d : Nat} {K : Int → z_Mem → Prop} {Kn : z_Mem → Prop}
theorem e12_stepX (h : K (zsx a) μ) : z_ci m_X12_stepX [(0, a)] μ d K := by
  unfold zsx at h
  refine V_X12_stepX ⟨fun q1 => ⟨fun q2 => ?_, fun q3 => ?_⟩, fun q4 => ?_⟩
  · rw [if_neg q1, if_neg q2] at h
    exact h
  · rw [if_neg q1, if_pos q3] at h
    exact h
  · rw [if_pos q4] at h
    exact h
theorem e12_stepY (h : K (zsy a) μ) : z_ci m_X12_stepY [(0, a)] μ d K := by
  unfold zsy at h
  refine V_X12_stepY ⟨fun q1 => ⟨fun q2 => ?_, fun q3 => ?_⟩, fun q4 => ?_⟩
  · rw [if_neg q1, if_neg q2] at h
    exact h
  · rw [if_neg q1, if_pos q3] at h
    exact h
  · rw [if_pos q4] at h
    exact h
/-- a square is rolled -/
theorem e12_rolls (sk : zSK F ac ed es) (hG : zGm μ F ac ed es) (hk : 0 ≤ k ∧ k < 4 * F) (hT : 0 ≤ μ 137 (k / 4) ∧ μ 137 (k / 4) < 4) (hX : -10000 ≤ μ 135 (k / 4) ∧ μ 135 (k / 4) ≤ 10000) (hY : -10000 ≤ μ 136 (k / 4) ∧ μ 136 (k / 4) ≤ 10000) (h : Kn (z_st (z_st (z_st μ 135 (ac k / 4) (μ 135 (k / 4) + zsx (zwy (μ 137) k))) 136 (ac k / 4) (μ 136 (k / 4) + zsy (zwy (μ 137) k))) 137 (ac k / 4) (ztn ac (μ 137) k))) : z_cn m_X12_rolls [(2, 113), (0, k)] μ (d + 1) Kn := by
  have F30 := sk.1.2
  obtain ⟨s1, s2, s3, s4, s5, s6⟩ := sk.2.1 _ hk.1 hk.2
  obtain ⟨g1, g2, g3⟩ := hG.2.2.1 _ hk.1 hk.2
  have ew : (k + μ 137 (k / 4)) % 4 = zwy (μ 137) k := rfl
  have w := zwy_r (T := μ 137) (a := k)
  have x := zsx_r (zwy (μ 137) k)
  have y := zsy_r (zwy (μ 137) k)
  refine V_X12_rolls ?_
  rw [ew, g1]
  refine ⟨by omega, by omega, by omega, ⟨by omega, by omega⟩, by omega, by omega, e12_stepX ⟨⟨by omega, by omega⟩, by omega, by omega, e12_stepY ?_⟩⟩
  simp only [z_st_rd, Int.reduceEq, false_and, if_false]
  rw [g2]
  have et : (zwy (μ 137) k + 2 - ac k % 4 + 4) % 4 = ztn ac (μ 137) k := by
    unfold ztn
    omega
  rw [et]
  exact ⟨⟨by omega, by omega⟩, by omega, ⟨by omega, by omega⟩, by omega, ⟨by omega, by omega⟩, ⟨by omega, by omega⟩, by omega, by omega, h⟩
theorem zfj_drop : ∀ (n : Nat) (L : List Int) (j : Int), j < ((L.drop n).length : Int) + 1 → zfj ac r L j = zfj ac r (L.drop n) j
  | 0, L, j, _ => by rw [List.drop_zero]
  | n + 1, [], j, _ => rfl
  | n + 1, k :: L, j, h => by
    rw [List.drop_succ_cons] at h ⊢
    have := zfj_drop n L j h
    rw [← this]
    have l : (L.drop n).length ≤ L.length := by rw [List.length_drop]; omega
    exact if_neg (by omega)
theorem zTr_drop : ∀ (n : Nat) (L : List Int), zTr F ac ed H r L → zTr F ac ed H r (L.drop n)
  | 0, L, h => by rw [List.drop_zero]; exact h
  | n + 1, [], h => h
  | n + 1, k :: L, h => by
    rw [List.drop_succ_cons]
    exact zTr_drop n L h.2
/-- the reference's plane -/
def zPP (μ0 m : z_Mem) (F : Int) (ac : Int → Int) (r : Int) (L : List Int) : Prop := (∀ o i, (o < 130 ∨ 132 < o) → (o < 135 ∨ 137 < o) → m o i = μ0 o i) ∧ zRow ac r L (m 131) ∧ (∀ f, 0 ≤ f → f < F → m 130 f = zi (zin ac r L f)) ∧ zLy ac r (m 135) (m 136) (m 137) L
theorem e12_places (sk : zSK F ac ed es) (hG : zGm μ0 F ac ed es) (hH : zHm μ0 H) (h22 : μ0 114 22 = r) (hr : 0 ≤ r ∧ r < F) (hk : ∀ m, zPP μ0 m F ac r (zBF ac ed H r) → K ((zBF ac ed H r).length + 1) m) : z_ci m_X12_places [(2, 113)] μ0 (d + 2) K := by
  have F30 := sk.1.2
  refine V_X12_places ⟨fun q => ?_, fun q => by rw [hG.1] at q; omega⟩
  rw [h22]
  refine e12_joins sk hG hH hr (fun m3 h3 => ?_)
  have e22 : m3 114 22 = r := by rw [h3.1 114 22 (by decide) (by decide) (by decide)]; exact h22
  simp only [z_st_rd, Int.reduceEq, false_and, if_false]
  rw [e22]
  refine ⟨by omega, by omega, by omega, ?_⟩
  have ht := zBF_tr (H := H) sk hr
  generalize hB : zBF ac ed H r = B at h3 hk ht
  have lb := zTr_le sk hr ht
  have loop : ∀ (n : Nat) (m : z_Mem), n ≤ B.length → (∀ o i, o < 135 ∨ 137 < o → m o i = m3 o i) → zLy ac r (m 135) (m 136) (m 137) (B.drop n) → z_ri m_X12_places 62 [some (2, 113), some (0, B.length + 1), some (0, (B.drop n).length + 1)] m (d + 2) K := by
    intro n
    induction n with
    | zero =>
      intro m hn hf hl
      rw [List.drop_zero] at hl ⊢
      refine V_X12_places_62 ⟨fun q => hk m ⟨fun o i a b => ?_, ?_, ?_, hl⟩, fun q => by omega⟩
      · rw [hf o i b]
        exact h3.1 o i (by omega) (by omega) (by omega)
      · rw [show m 131 = m3 131 from funext fun i => hf 131 i (by omega)]
        exact h3.2.1
      · intro f f0 f1
        rw [hf 130 f (by omega)]
        exact h3.2.2.2 f f0 f1
    | succ n ih =>
      intro m hn hf hl
      have eD : B.drop n = B[n] :: B.drop (n + 1) := List.drop_eq_getElem_cons (by omega)
      have hln : ((B.drop n).length : Int) = (B.drop (n + 1)).length + 1 := by rw [eD, List.length_cons]; omega
      have lle : (B.drop n).length ≤ B.length := by rw [List.length_drop]; omega
      have t1 := zTr_drop n B ht
      rw [eD] at t1
      obtain ⟨⟨c1, c2, c3, c4⟩, t2⟩ := t1
      have kin : B[n] ∈ B := List.getElem_mem _
      generalize hkk : B[n] = k at *
      obtain ⟨s1, s2, s3, s4, s5, s6⟩ := sk.2.1 k c1.1 c1.2
      have fj : m 131 ((B.drop (n + 1)).length + 1) = ac k / 4 := by
        rw [hf 131 _ (by omega), h3.2.1 _ (by omega) (by omega), zfj_drop n B _ (by omega), eD]
        exact if_pos rfl
      have fk : m 132 (ac k / 4) = k := by
        rw [hf 132 _ (by omega)]
        exact h3.2.2.1.2 k kin
      have bd := zLy_b t2 hl (k / 4) c3
      refine V_X12_places_62 ⟨fun q => by omega, fun q => ?_⟩
      rw [fj, fk]
      have G : zGm m F ac ed es := zGm_fr hG (fun o i q => by
        rw [hf o i (by omega)]
        exact h3.1 o i (by omega) (by omega) (by omega))
      refine ⟨by omega, by omega, e12_rolls sk G c1 bd.2.2 (by omega) (by omega) ⟨⟨by omega, by omega⟩, ?_⟩⟩
      have := ih (z_st (z_st (z_st m 135 (ac k / 4) (m 135 (k / 4) + zsx (zwy (m 137) k))) 136 (ac k / 4) (m 136 (k / 4) + zsy (zwy (m 137) k))) 137 (ac k / 4) (ztn ac (m 137) k)) (by omega) (fun o i q => by rw [z_st_ne (by omega), z_st_ne (by omega), z_st_ne (by omega)]; exact hf o i q) ?_
      · rw [hln] at this
        exact this
      · rw [eD]
        have ne : k / 4 ≠ ac k / 4 := fun q => by rw [← q, c3] at c4; cases c4
        have e5 : ∀ u v w g, g ≠ ac k / 4 → z_st (z_st (z_st m 135 (ac k / 4) u) 136 (ac k / 4) v) 137 (ac k / 4) w 135 g = m 135 g ∧ z_st (z_st (z_st m 135 (ac k / 4) u) 136 (ac k / 4) v) 137 (ac k / 4) w 136 g = m 136 g ∧ z_st (z_st (z_st m 135 (ac k / 4) u) 136 (ac k / 4) v) 137 (ac k / 4) w 137 g = m 137 g := fun u v w g q => ⟨by rw [z_st_ne (by decide), z_st_ne (by decide), z_st_ni q], by rw [z_st_ne (by decide), z_st_ni q, z_st_ne (by decide)], by rw [z_st_ni q, z_st_ne (by decide), z_st_ne (by decide)]⟩
        have ewy : ∀ u v w, zwy (z_st (z_st (z_st m 135 (ac k / 4) u) 136 (ac k / 4) v) 137 (ac k / 4) w 137) k = zwy (m 137) k := fun u v w => by unfold zwy; rw [(e5 u v w _ ne).2.2]
        refine ⟨⟨?_, ?_, ?_⟩, zLy_ag t2 hl (fun g hg => e5 _ _ _ g (fun q => by rw [q, c4] at hg; cases hg))⟩
        · rw [ewy, (e5 _ _ _ _ ne).1, z_st_ne (by decide), z_st_ne (by decide), z_st_eq]
        · rw [ewy, (e5 _ _ _ _ ne).2.1, z_st_ne (by decide), z_st_eq]
        · unfold ztn
          rw [ewy, z_st_eq]
  have := loop B.length (z_st (z_st (z_st m3 135 r 0) 136 r 0) 137 r 0) (Nat.le_refl _) (fun o i q => by rw [z_st_ne (by omega), z_st_ne (by omega), z_st_ne (by omega)]) ?_
  · rw [List.drop_length] at this
    exact this
  · rw [List.drop_length]
    exact ⟨by rw [z_st_ne (by decide), z_st_ne (by decide), z_st_eq], by rw [z_st_ne (by decide), z_st_eq], z_st_eq⟩
theorem e12_places0 (h21 : μ0 113 21 = 0) (hk : K 0 μ0) : z_ci m_X12_places [(2, 113)] μ0 (d + 1) K := V_X12_places ⟨fun q => absurd h21 q, fun _ => hk⟩
end PL

/-! THE FIRST NET: the reference's act -/
section FI
variable {a b e h k v r f s x y w o c : Int} {p : zP} {U : zTT} {L : List Int} {Q : Int → zP} {μ μ0 : z_Mem} {d : Nat} {K : Int → z_Mem → Prop} {Kn : z_Mem → Prop}
theorem e12_seek (hv : zV p) (hc : zMn' μ p) (hh : zHM μ k Q) (hz : ¬ pF p = 0 → zrun p 3000 [] = (c, U)) (h1 : pF p = 0 → K (-1) μ) (h2 : ¬ pF p = 0 → c < 0 → ∀ m, zfS μ m → zMn' m p → K c m) (h3 : ¬ pF p = 0 → 0 ≤ c → ∀ m, (∀ x i, x ≠ 114 → x ≠ 117 → x ≠ 138 → x ≠ 139 → (x < 135 ∨ 137 < x) → ¬ (x = 113 ∧ (i = 6 ∨ i = 37 ∨ i = 38)) → m x i = μ x i) → zMn' m (psH p (zTH U)) → zHM m (min (k + 1) 10) (zpush k Q p) → K (3000 - c) m) : z_ci m_X12_seek [(2, 113)] μ (d + 80) K := by
  have sk := zV_sk hv
  have F0 : 0 ≤ pF p ∧ pF p ≤ 30 := sk.1
  have G : zGm μ (pF p) (pa p) (pe p) (pq p) := zMK_G hc.1
  refine V_X12_seek ?_
  rw [G.1]
  refine ⟨fun q => ?_, h1⟩
  have hz := hz q
  have hr : 0 ≤ pr p ∧ pr p < pF p := by
    have := hv.2.2.2.2.2.1
    omega
  have mn : ∀ m, zfS μ m → zMn' m p := fun m hS => zMn_fr hc hv.1 (fun x i w => hS x i (by omega) (by omega) (by omega) (by omega))
  have two : ∀ f, 0 ≤ f → f ≤ pF p → ∀ m : z_Mem, zfS μ m → (∀ e, 0 ≤ e → e < 2 * pF p → m 138 e = 0) → (∀ g, 0 ≤ g → g < f → m 139 g = zi (decide (g = pr p))) → z_ri m_X12_seek 34 [some (2, 113), some (0, f), none] m (d + 80) K := by
    refine z_up (fun f f0 f1 ih m hS h8 h9 => V_X12_seek_34 ?_)
    have Gm : zGm m (pF p) (pa p) (pe p) (pq p) := zMK_G (mn m hS).1
    have e22 : m 114 22 = pr p := zRwM_r (mn m hS).2
    rw [Gm.1, e22]
    refine ⟨fun q1 => ?_, fun q1 => ?_⟩
    · obtain rfl : f = pF p := by omega
      simp only [z_st_rd, Int.reduceEq, false_and, if_false, e22]
      refine ⟨(by first | omega | exact ⟨by omega, by omega⟩), (by first | omega | exact ⟨by omega, by omega⟩), (by first | omega | exact ⟨by omega, by omega⟩), ?_⟩
      have S5 : zfS μ (z_st (z_st (z_st (z_st (z_st m 135 (pr p) 0) 136 (pr p) 0) 137 (pr p) 0) 113 38 1) 113 37 0) := fun o i a1 a2 a3 a4 => by
        rw [z_noo (by omega), z_noo (by omega), z_st_ne (by omega), z_st_ne (by omega), z_st_ne (by omega)]
        exact hS o i a1 a2 a3 a4
      refine e12_finds hv hr 3000 3000 [] _ (d + 79) _ (Nat.le_refl _) (Nat.le_refl _) (by show 64 ≤ d + 79 + 0; omega) trivial (zGm_fr G (fun o i w => S5 o i (by omega) (by omega) (by omega) (by omega))) ⟨fun e e0 e1 => ?_, fun g g0 g1 => ?_, ?_, ?_⟩ (by rw [z_st_eq]; rfl) (fun m2 c2 U2 hc2 hz2 S2 I2 M2 h37 => ?_) (fun m2 n' hn' hz2 S2 M2 h37 => ?_) (fun m2 hz2 S2 M2 h37 => ?_)
      · rw [z_st_ne (by decide), z_st_ne (by decide), z_st_ne (by decide), z_st_ne (by decide), z_st_ne (by decide)]
        exact h8 e e0 e1
      · rw [z_st_ne (by decide), z_st_ne (by decide), z_st_ne (by decide), z_st_ne (by decide), z_st_ne (by decide)]
        exact h9 g g0 g1
      · rw [z_st_ni (by decide), z_st_eq]
        rfl
      · show _ = 0 ∧ _ = 0 ∧ _ = 0
        refine ⟨?_, ?_, ?_⟩
        · rw [z_st_ne (by decide), z_st_ne (by decide), z_st_ne (by decide), z_st_ne (by decide), z_st_eq]
        · rw [z_st_ne (by decide), z_st_ne (by decide), z_st_ne (by decide), z_st_eq]
        · rw [z_st_ne (by decide), z_st_ne (by decide), z_st_eq]
      · rw [hz] at hz2
        obtain ⟨rfl, rfl⟩ : c = c2 ∧ U = U2 := by cases hz2; exact ⟨rfl, rfl⟩
        have S22 := zfS_t S5 S2
        refine ⟨fun _ => ?_, fun w => absurd w (by decide)⟩
        have C2 := mn m2 S22
        refine e12_keepsPast (zHM_fr hh (S22 113 6 (by decide) (by decide) (by decide) (by decide)) (fun i _ => S22 117 i (by decide) (by decide) (by decide) (by omega))) C2.2 hv.1 (fun m3 f3 H3 => ?_)
        have fin : ∀ e, 0 ≤ e → e ≤ 2 * pF p → ∀ m : z_Mem, (∀ x i, x ≠ 114 → m x i = m3 x i) → zRwM m 114 0 (psH p (fun i => if i < e then zTH U i else pH p i)) → z_ri m_X12_seek 152 [some (2, 113), none, some (0, e)] m (d + 80) K := by
          refine z_up (fun e e0 e1 ih m hf hR => V_X12_seek_152 ?_)
          have fr : ∀ x i, x ≠ 114 → x ≠ 117 → x ≠ 138 → x ≠ 139 → (x < 135 ∨ 137 < x) → ¬ (x = 113 ∧ (i = 6 ∨ i = 37 ∨ i = 38)) → m x i = μ x i := fun x i q1 q2 q3 q4 q5 q6 => by
            rw [hf x i q1, f3 x i (by omega) q2]
            exact S22 x i q3 q4 q5 (by omega)
          have e22 : m 113 22 = 2 * pF p := by rw [fr 113 22 (by decide) (by decide) (by decide) (by decide) (by decide) (by decide)]; exact G.2.1
          have e37 : m 113 37 = 3000 - c := by rw [hf 113 37 (by decide), f3 113 37 (by decide) (by decide)]; exact h37
          rw [e22, e37]
          refine ⟨fun q => ?_, fun q => ?_⟩
          · obtain rfl : e = 2 * pF p := by omega
            have eH : (fun i => if i < 2 * pF p then zTH U i else pH p i) = zTH U := by
              funext i
              by_cases w : i < 2 * pF p
              · exact if_pos w
              · rw [if_neg w, hv.2.2.2.2.1 i (by omega)]
                exact (decide_eq_false (fun x => w (zto_in I2 (by omega)).2)).symm
            rw [eH] at hR
            exact h3 (by omega) hc2 m fr (zM_H (H := zTH U) hv hc (fun o i w => fr o i (by omega) (by omega) (by omega) (by omega) (by omega) (by omega)) hR) (zHM_fr H3 (hf 113 6 (by decide)) (fun i _ => hf 117 i (by decide)))
          · have e138 : m 138 e = zto U e := by rw [hf 138 e (by decide), f3 138 e (by omega) (by decide)]; exact M2.1 e e0 q
            have nx : ∀ x, x = zi (zTH U e) → z_ri m_X12_seek 152 [some (2, 113), none, some (0, e + 1)] (z_st m 114 (23 + e) x) (d + 80) K := fun x hx => by
              refine ih q _ (fun y i hy => by rw [z_st_ne hy]; exact hf y i hy) ?_
              refine zRwM_set (p := psH p (fun i => if i < e then zTH U i else pH p i)) (H := fun i => if i < e + 1 then zTH U i else pH p i) hR hv.1 (by omega : 0 ≤ e ∧ e < 60) ?_ (fun i hi => ?_)
              · rw [if_pos (by omega)]
                exact hx
              · by_cases w : i < e
                · rw [if_pos (by omega)]
                  exact (if_pos w).symm
                · rw [if_neg (by omega)]
                  exact (if_neg w).symm
            rw [e138]
            refine ⟨(by first | omega | exact ⟨by omega, by omega⟩), (by first | omega | exact ⟨by omega, by omega⟩), fun w => e_truth (fun _ => ⟨(by first | omega | exact ⟨by omega, by omega⟩), (by first | omega | exact ⟨by omega, by omega⟩), nx 0 ?_⟩) (fun w => absurd rfl w), fun w => e_truth (fun w => absurd w (by decide)) (fun _ => ⟨(by first | omega | exact ⟨by omega, by omega⟩), (by first | omega | exact ⟨by omega, by omega⟩), nx 1 ?_⟩)⟩
            · show 0 = zi (decide (zto U e = 1))
              rw [decide_eq_false w]
              rfl
            · show 1 = zi (decide (zto U e = 1))
              rw [decide_eq_true w]
              rfl
        refine fin 0 (by omega) (by omega) m3 (fun _ _ _ => rfl) ?_
        have R3 : zRwM m3 114 0 p := zRwM_fr C2.2 hv.1 (fun i _ _ => f3 114 i (by omega) (by decide))
        obtain ⟨a1, a2, a3, a4, a5⟩ := R3
        refine ⟨a1, a2, a3, fun e e0 e1 => ?_, a5⟩
        rw [a4 e e0 e1]
        show zi (pH p e) = zi (if e < 0 then zTH U e else pH p e)
        rw [if_neg (by omega)]
      · have : zrun p 3000 [] = (-2, []) := hz2
        rw [hz] at this
        obtain rfl : c = -2 := by cases this; rfl
        refine ⟨fun w => absurd rfl w, fun _ => ⟨fun _ => h2 (by omega) (by decide) m2 (zfS_t S5 S2) (mn m2 (zfS_t S5 S2)), fun w => by omega⟩⟩
      · rw [hz] at hz2
        obtain rfl : c = -3 := hz2
        refine ⟨fun w => absurd rfl w, fun _ => ⟨fun w => by omega, fun _ => h2 (by omega) (by decide) m2 (zfS_t S5 S2) (mn m2 (zfS_t S5 S2))⟩⟩
    · have nx : ∀ x, x = zi (decide (f = pr p)) → z_ri m_X12_seek 34 [some (2, 113), some (0, f + 1), none] (z_st m 139 f x) (d + 80) K := fun x hx => ih q1 _ (fun o i a1 a2 a3 a4 => by rw [z_st_ne a2]; exact hS o i a1 a2 a3 a4) (fun e e0 e1 => by rw [z_st_ne (by decide)]; exact h8 e e0 e1) (fun g g0 g1 => by
        by_cases w : g = f
        · rw [w, z_st_eq]
          exact hx
        · rw [z_st_ni w]
          exact h9 g g0 (by omega))
      exact ⟨fun w => ⟨(by first | omega | exact ⟨by omega, by omega⟩), (by first | omega | exact ⟨by omega, by omega⟩), nx 0 (by rw [decide_eq_false w]; rfl)⟩, fun w => ⟨(by first | omega | exact ⟨by omega, by omega⟩), (by first | omega | exact ⟨by omega, by omega⟩), nx 1 (by rw [decide_eq_true w]; rfl)⟩⟩
  have one : ∀ e, 0 ≤ e → e ≤ 2 * pF p → ∀ m : z_Mem, zfS μ m → (∀ g, 0 ≤ g → g < e → m 138 g = 0) → z_ri m_X12_seek 11 [some (2, 113), some (0, e), none] m (d + 80) K := by
    refine z_up (fun e e0 e1 ih m hS h8 => V_X12_seek_11 ?_)
    have Gm : zGm m (pF p) (pa p) (pe p) (pq p) := zMK_G (mn m hS).1
    rw [Gm.2.1]
    refine ⟨fun q1 => two 0 (by omega) (by omega) m hS (fun g g0 g1 => h8 g g0 (by omega)) (fun g g0 g1 => by omega), fun q1 => ⟨(by first | omega | exact ⟨by omega, by omega⟩), (by first | omega | exact ⟨by omega, by omega⟩), ih q1 _ (fun o i a1 a2 a3 a4 => by rw [z_st_ne a1]; exact hS o i a1 a2 a3 a4) (fun g g0 g1 => ?_)⟩⟩
    by_cases w : g = e
    · rw [w, z_st_eq]
    · rw [z_st_ni w]
      exact h8 g g0 (by omega)
  exact one 0 (by omega) (by omega) μ (fun _ _ _ _ _ _ => rfl) (fun g g0 g1 => by omega)
end FI

/-! THE OUTLINE: the class draws; both sides tell the number -/
def zNet (p : zP) : Prop := zWo p ∧ zoN p ≤ 0
def zho (B : Int → Int) : Nat → Int
  | 0 => 17
  | k + 1 => Int.bmod (Int.bmod (31 * zho B k) 18446744073709551616 + B k) 18446744073709551616
noncomputable def zaU (p : zP) : Int := if zpd (zNet p) = true then zho (zou p 8) (pF p).toNat else 0
section DR
variable {a : Int} {n : Nat} {A B : Int → Int} {p : zP} {μ : z_Mem} {d : Nat} {K : Int → z_Mem → Prop} {Kn : z_Mem → Prop}
theorem zho_ag : ∀ n : Nat, (∀ j : Int, 0 ≤ j → j < n → A j = B j) → zho A n = zho B n
  | 0, _ => rfl
  | n + 1, h => by
    show Int.bmod (Int.bmod (31 * zho A n) 18446744073709551616 + A n) 18446744073709551616 = Int.bmod (Int.bmod (31 * zho B n) 18446744073709551616 + B n) 18446744073709551616
    rw [zho_ag n (fun j j0 j1 => h j j0 (by omega)), h n (by omega) (by omega)]
theorem e_draw (hv : zV p) (hq : zQC μ p) (ha : a = 0 ∨ (zWo p ∧ a = pF p)) (hk : ∀ m, (∀ o i, ¬ (o = 75 ∧ i = 0) → (o < 76 ∨ 79 < o) → m o i = μ o i) → m 75 0 = a → (0 < a → ∀ j : Int, 0 ≤ j → j < pF p → m 76 j = zou p 8 j) → Kn m) : z_cn m_X8_draw [(2, 75), (2, 23), (0, a)] μ (d + 2) Kn := by
  have F0 : 0 ≤ pF p ∧ pF p ≤ 30 := (zV_sk hv).1
  refine V_X8_draw ?_
  rw [show min a 30 = a by omega]
  rcases ha with rfl | ⟨hw, rfl⟩
  · have e : z_st μ 75 0 0 75 0 = 0 := z_st_eq
    refine V_X8_draw_12 ⟨fun q => by omega, fun q => ⟨fun q3 => hk _ (fun o i x y => z_st_nx x) z_st_eq (fun q4 => absurd q4 (by decide)), fun q4 => ?_⟩⟩
    rw [e] at q4
    omega
  · have cn : (((pF p).toNat : Nat) : Int) = pF p := by omega
    have Fp := hw.1
    have loop : ∀ (j i : Nat) (m : z_Mem), i + j = 8 → (∀ o x, ¬ (o = 75 ∧ x = 0) → (o < 76 ∨ 79 < o) → m o x = μ o x) → m 75 0 = pF p → (0 < i → ∀ j : Int, 0 ≤ j → j < pF p → m 76 j = zou p i j) → z_rn m_X8_draw 12 [some (2, 75), some (2, 23), none, some (0, i)] m (d + 2) Kn := by
      intro j
      induction j with
      | zero =>
        intro i m hi hf h75 hm
        obtain rfl : i = 8 := by omega
        exact V_X8_draw_12 ⟨fun _ => hk m hf h75 (fun _ => hm (by omega)), fun q => by omega⟩
      | succ j ih =>
        intro i m hi hf h75 hm
        have qm : zQC m p := by
          obtain ⟨q1, q2, q3⟩ := hq
          refine ⟨by rw [hf 23 5 (by decide) (by decide)]; exact q1, fun f f0 => by rw [hf 23 5 (by decide) (by decide)]; exact q2 f f0, fun f hp => ?_⟩
          rw [hf 24 f (by omega) (by decide), hf 25 f (by omega) (by decide), hf 26 f (by omega) (by decide)]
          exact q3 f hp
        refine V_X8_draw_12 ⟨fun q => by omega, fun q => ⟨fun q3 => by omega, fun q4 => ?_⟩⟩
        refine e_turn hv hw ⟨by omega, by omega⟩ h75 qm (fun m3 f3 h3 => ?_)
        have h753 : m3 75 0 = pF p := by rw [f3 75 0 (by decide) (by decide) (by decide)]; exact h75
        refine e_sort (n := (pF p).toNat) (by omega) (by rw [h753, cn]) (fun m4 f4 h4 => ?_)
        have r : ∀ g : Int, 0 ≤ g → g < pF p → m4 77 g = zrw p i g := fun g g0 g1 => by
          rw [h4]
          exact zsr_ag (n := (pF p).toNat) _ (Nat.le_refl _) (fun x x0 x1 => h3 x x0 (by omega)) g g0 (by omega)
        have h754 : m4 75 0 = pF p := by rw [f4 75 0 (by decide)]; exact h753
        have f34 : ∀ o x, o ≠ 77 → o ≠ 78 → o ≠ 79 → m4 o x = m o x := fun o x a b c => by rw [f4 o x a]; exact f3 o x a b c
        have copy : zou p (i + 1) = zrw p i → z_rn m_X8_draw 12 [some (2, 75), some (2, 23), none, some (0, (i : Int) + 1)] (z_cpy m4 77 0 76 0 (m4 75 0)) (d + 2) Kn := fun hz => by
          refine ih (i + 1) _ (by omega) (fun o x a b => ?_) ?_ (fun _ g g0 g1 => ?_)
          · rw [z_cpy_ne (by omega), f34 o x (by omega) (by omega) (by omega)]
            exact hf o x a b
          · rw [z_cpy_ne (by decide)]
            exact h754
          · rw [z_cpy_in (by omega), show 0 + (g - 0) = g by omega, hz]
            exact r g g0 g1
        refine ⟨fun w => ⟨⟨by omega, by omega, by omega⟩, ⟨by omega, by omega⟩, ?_⟩, fun w => ?_⟩
        · obtain rfl : i = 0 := by omega
          exact copy rfl
        · have hi0 : ¬ i = 0 := by omega
          have ez : zou p (i + 1) = if zlt (zrw p i) (zou p i) (pF p).toNat 0 = true then zrw p i else zou p i := if_neg hi0
          refine e_first (n := (pF p).toNat) (A := zrw p i) (B := zou p i) (by omega) (by rw [h754, cn]) (fun g g0 g1 => r g g0 (by omega)) (fun g g0 g1 => by rw [f34 76 g (by decide) (by decide) (by decide)]; exact hm (by omega) g g0 (by omega)) ?_
          cases hl : zlt (zrw p i) (zou p i) (pF p).toNat 0 with
          | true =>
            rw [hl] at ez
            exact ⟨fun x => absurd x (by decide), fun _ => ⟨⟨by omega, by omega, by omega⟩, ⟨by omega, by omega⟩, copy ez⟩⟩
          | false =>
            rw [hl] at ez
            have ez : zou p (i + 1) = zou p i := ez
            refine ⟨fun _ => ⟨⟨by omega, by omega⟩, ?_⟩, fun x => absurd rfl x⟩
            exact ih (i + 1) m4 (by omega) (fun o x a b => by rw [f34 o x (by omega) (by omega) (by omega)]; exact hf o x a b) h754 (fun _ g g0 g1 => by rw [ez, f34 76 g (by decide) (by decide) (by decide)]; exact hm (by omega) g g0 g1)
    exact loop 8 0 _ rfl (fun o x a b => z_st_nx a) z_st_eq (fun w => absurd w (by decide))
theorem e_netFaces (hv : zV p) (hc : zCn' μ p) (h1 : zNet p → K (pF p) μ) (h0 : ¬ zNet p → K 0 μ) : z_ci m_X11_netFaces [(2, 1)] μ (d + 3) K := by
  have G : zGc μ (pF p) (pa p) (pe p) (pq p) := zCK_G hc.1
  have z0 := (zN_r (P := zovt p) 900).1
  refine V_X11_netFaces (e_allJoined hv hc (fun hw => zy1' ?_) (fun hw => zy0' (h0 (fun w => hw w.1))))
  refine e_overlap hv hc (by decide) ?_
  have e : zaO p (-1) = zoN p := rfl
  rw [e, G.1]
  exact ⟨fun q => h0 (fun w => q (by have := w.2; unfold zoN at *; omega)), fun q => h1 ⟨hw, by omega⟩⟩
theorem e_number (hn : n ≤ 30) (h75 : μ 75 0 = n) (h : K (if n = 0 then 0 else zho (μ 76) n) μ) : z_cl' m_X8_number [(2, 75)] μ d K := by
  refine V_X8_number ?_
  rw [h75]
  refine ⟨fun q => ?_, fun q => by rw [if_pos (by omega)] at h; exact h⟩
  rw [if_neg (by omega)] at h
  have key : ∀ (j i : Nat), i + j = n → z_rl m_X8_number 15 [some (2, 75), some (1, zho (μ 76) i), none, some (0, i)] μ d K := by
    intro j
    induction j with
    | zero =>
      intro i hi
      obtain rfl : i = n := by omega
      refine V_X8_number_15 ?_
      rw [h75]
      exact ⟨fun _ => h, fun q => by omega⟩
    | succ j ih =>
      intro i hi
      refine V_X8_number_15 ?_
      rw [h75]
      exact ⟨fun q => by omega, fun q => ⟨⟨by omega, by omega⟩, ⟨by omega, by omega⟩, ih (i + 1) (by omega)⟩⟩
  exact key n 0 (by omega)
theorem zaU_1 (h : zNet p) : zaU p = zho (zou p 8) (pF p).toNat := by
  unfold zaU
  rw [if_pos (zpd_t h)]
theorem zaU_0 (h : ¬ zNet p) : zaU p = 0 := by
  unfold zaU
  rw [if_neg (by rw [zpd_f h]; decide)]
theorem e_outline (hv : zV p) (hc : zCn' μ p) (hk : ∀ m, (∀ o i, ¬ (o = 75 ∧ i = 0) → (o < 76 ∨ 79 < o) → m o i = μ o i) → K (zaU p) m) : z_cl' m_X11_outline [(2, 1)] μ (d + 4) K := by
  have F0 : 0 ≤ pF p ∧ pF p ≤ 30 := (zV_sk hv).1
  have cn : (((pF p).toNat : Nat) : Int) = pF p := by omega
  refine V_X11_outline (e_netFaces hv hc (fun w => ?_) (fun w => ?_))
  · refine e_draw hv (zCn_Q hv hc).1 (Or.inr ⟨w.1, rfl⟩) (fun m fm h1 h2 => ?_)
    refine e_number (n := (pF p).toNat) (by omega) (by rw [h1, cn]) ?_
    have Fp := w.1.1
    rw [if_neg (by omega), zho_ag (B := zou p 8) _ (fun j j0 j1 => h2 Fp j j0 (by omega)), ← zaU_1 w]
    exact hk m fm
  · refine e_draw hv (zCn_Q hv hc).1 (Or.inl rfl) (fun m fm h1 h2 => ?_)
    refine e_number (n := 0) (by omega) h1 ?_
    rw [if_pos rfl, ← zaU_0 w]
    exact hk m fm
theorem e12_outline (hv : zV p) (hc : zMn' μ p) (hk : ∀ m, (∀ o i, (o < 130 ∨ 132 < o) → (o < 135 ∨ 137 < o) → o ≠ 145 → o ≠ 146 → m o i = μ o i) → K (zaU p) m) : z_cl' m_X12_outline [(2, 113)] μ (d + 9) K := by
  have F0 : 0 ≤ pF p ∧ pF p ≤ 30 := (zV_sk hv).1
  have cn : (((pF p).toNat : Nat) : Int) = pF p := by omega
  have G : zGm μ (pF p) (pa p) (pe p) (pq p) := zMK_G hc.1
  refine V_X12_outline (e12_laysOutline hv hc (fun w m fm => zy0 ?_) (fun w w2 m fm hm => zy1 ?_))
  · have := hk m fm
    rw [zaU_0 w] at this
    exact this
  · have e21 : m 113 21 = pF p := by rw [fm 113 21 (by decide) (by decide) (by decide) (by decide)]; exact G.1
    have fin := hk m fm
    rw [zaU_1 ⟨w, w2⟩, ← zho_ag (A := m 146) (B := zou p 8) _ (fun j j0 j1 => hm j j0 (by omega))] at fin
    have key : ∀ (j i : Nat), i + j = (pF p).toNat → z_rl m_X12_outline 15 [some (2, 113), some (1, zho (m 146) i), none, some (0, i)] m (d + 9) K := by
      intro j
      induction j with
      | zero =>
        intro i hi
        obtain rfl : i = (pF p).toNat := by omega
        refine V_X12_outline_15 ?_
        rw [e21]
        exact ⟨fun _ => fin, fun q => by omega⟩
      | succ j ih =>
        intro i hi
        refine V_X12_outline_15 ?_
        rw [e21]
        exact ⟨fun q => by omega, fun q => ⟨⟨by omega, by omega⟩, ⟨by omega, by omega⟩, ih (i + 1) (by omega)⟩⟩
    exact key (pF p).toNat 0 (by omega)
end DR

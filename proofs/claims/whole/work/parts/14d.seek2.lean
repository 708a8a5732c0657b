/-! THE FIRST NET: the class's act, the reference's leaves -/
def zMT (p : zP) (m : z_Mem) (T : zTT) : Prop := (∀ e, 0 ≤ e → e < 2 * pF p → m 138 e = zto T e) ∧ (∀ f, 0 ≤ f → f < pF p → m 139 f = zi (zin (pa p) (pr p) (zLl p T) f)) ∧ m 113 38 = (zLl p T).length + 1 ∧ zLy (pa p) (pr p) (m 135) (m 136) (m 137) (zLl p T)
def zfS (μ m : z_Mem) : Prop := ∀ o i, o ≠ 138 → o ≠ 139 → (o < 135 ∨ 137 < o) → ¬ (o = 113 ∧ (i = 37 ∨ i = 38)) → m o i = μ o i
section FI
variable {a b e h k v r f s x y w o : Int} {n c : Nat} {p : zP} {T U : zTT} {L : List Int} {Q : Int → zP} {μ μ0 : z_Mem} {d : Nat} {K : Int → z_Mem → Prop} {Kn : z_Mem → Prop}
theorem zV_T (hv : zV p) (hT : zTI p T) : zV (psH p (zTH T)) := by
  obtain ⟨v1, v2, v3, v4, v5, v6, v7⟩ := hv
  refine ⟨v1, v2, v3, (zTI_all ⟨v1, v2, v3, v4, v5, v6, v7⟩ hT).2.2.1, fun e he => ?_, v6, v7⟩
  have he : ¬ (0 ≤ e ∧ e < 2 * pF p) := he
  show decide (zto T e = 1) = false
  refine decide_eq_false (fun w => he (zto_in hT (by omega)))
theorem e_seek (hv : zV p) (hc : zCn' μ p) (hh : zHC μ k Q) (h1 : pF p = 0 → K (-1) μ) (h2 : ¬ pF p = 0 → ∀ m c U, zrun p 3000 [] = (c, U) → c < 0 → (∀ o i, (o < 31 ∨ 38 < o) → m o i = μ o i) → K c m) (h3 : ¬ pF p = 0 → ∀ m c U, zrun p 3000 [] = (c, U) → 0 ≤ c → zTI p U → zfA μ m → m 29 0 = 0 → m 39 0 = 0 → m 44 0 = 0 → zCn' m (psH p (zTH U)) → zHC m (min (k + 1) 10) (zpush k Q p) → K (3000 - c) m) (hle : ∀ c U, zrun p 3000 [] = (c, U) → c ≤ 3000) : z_ci m_X11_seek [(2, 1)] μ (d + 12) K := by
  have sk := zV_sk hv
  have F0 : 0 ≤ pF p ∧ pF p ≤ 30 := sk.1
  have G : zGc μ (pF p) (pa p) (pe p) (pq p) := zCK_G hc.1
  have hroot : μ 21 1 = pr p := hc.2.1.2.1
  refine V_X11_seek ?_
  rw [G.1, hroot]
  refine ⟨fun q => ?_, h1⟩
  have hr : 0 ≤ pr p ∧ pr p < pF p := by
    have := hv.2.2.2.2.2.1
    omega
  refine e_find hv hr G (fun m c U hz hf hy => ?_)
  by_cases q0 : 0 ≤ c
  · rw [if_pos q0]
    have := hle c U hz
    obtain ⟨hI, hC⟩ := hy q0
    refine ⟨fun _ => ?_, fun w => by omega⟩
    refine e_remember (zHC_fr hh (fun x i _ _ => hf x i (by omega))) (zRwC_fr hc.2.1 (fun x i _ => hf x i (by omega))) (fun m2 f2 H2 => ?_)
    have e31 : m2 31 0 = m 31 0 := f2 31 0 (by omega)
    rw [e31]
    have fr : ∀ x i, (x < 31 ∨ 38 < x) → (x < 80 ∨ 101 < x) → x ≠ 21 → z_st m2 21 0 (m 31 0) x i = μ x i := fun x i q1 q2 q3 => by
      rw [z_st_ne q3, f2 x i q2]
      exact hf x i q1
    have r4 : zRwC (z_st m2 21 0 (m 31 0)) 21 (psH p (zTH U)) := by
      refine ⟨by rw [z_st_eq]; exact hC.1, ?_, fun e e0 e1 => ?_⟩
      · rw [z_st_ni (by decide), f2 21 1 (by omega), hf 21 1 (by omega)]
        exact hroot
      · show z_st m2 21 0 (m 31 0) 22 e = pW p e
        rw [z_st_ne (by decide), f2 22 e (by omega), hf 22 e (by omega)]
        exact hc.2.1.2.2 e e0 e1
    exact e_act (μ0 := μ) (p' := psH p (zTH U)) (zV_T hv hI) (zCK_fr hc.1 (fun x i _ _ => fr x i (by omega) (by omega) (by omega))) r4 (fun x i q => fr x i (by omega) (by omega) (by omega)) (k' := min (k + 1) 10) (Q' := zpush k Q p) (zHC_fr H2 (fun x i _ _ => z_st_ne (by omega))) (fun m4 f4 c1 c2 c3 c4 c5 => h3 q m4 c U hz q0 hI f4 c1 c2 c3 c4 c5)
  · rw [if_neg q0]
    exact ⟨fun w => absurd w q0, fun _ => h2 q m c U hz (by omega) hf⟩
theorem zrun_le : ∀ (n : Nat) (T : zTT) (c : Int) (U : zTT), zrun p n T = (c, U) → -3 ≤ c ∧ c ≤ n ∧ (n = 0 → c = -3) ∧ (0 < n → c < n)
  | 0, T, c, U, h => by
    have : (-3, T) = (c, U) := h
    cases this
    omega
  | n + 1, T, c, U, h => by
    have h : (if ((zLl p T).length : Int) + 1 = pF p then ((n : Int), T) else if zle' p T < 2 * pF p then zrun p n ((zle' p T, zfre' p T (zle' p T)) :: T) else if (zbk T).length = 0 then (-2, []) else zrun p n (zbk T)) = (c, U) := h
    split at h
    · cases h
      omega
    · split at h
      · have := zrun_le n _ c U h
        omega
      · split at h
        · cases h
          omega
        · have := zrun_le n _ c U h
          omega
theorem e12_leastEdge (hv : zV p) (G : zGm μ (pF p) (pa p) (pe p) (pq p)) (h138 : ∀ e, 0 ≤ e → e < 2 * pF p → μ 138 e = zto T e) (h139 : ∀ f, 0 ≤ f → f < pF p → μ 139 f = zi (zin (pa p) (pr p) (zLl p T) f)) (h1 : zle' p T < 2 * pF p → K (zle' p T) μ) (h2 : ¬ zle' p T < 2 * pF p → K (-1) μ) : z_ci m_X12_leastEdge [(2, 113)] μ (d + 1) K := by
  have sk := zV_sk hv
  have F0 : 0 ≤ pF p ∧ pF p ≤ 30 := sk.1
  have key : ∀ e, 0 ≤ e → e ≤ 2 * pF p → zr (fun e => !zfrT p T e) (2 * pF p) e = zle' p T → z_ri m_X12_leastEdge 2 [some (2, 113), some (0, e)] μ (d + 1) K := by
    refine z_up (fun e e0 e1 ih hz => V_X12_leastEdge_2 ?_)
    rw [G.2.1]
    refine ⟨fun q => ?_, fun q => ⟨(by first | omega | exact ⟨by omega, by omega⟩), ?_⟩⟩
    · rw [zr_no (by omega)] at hz
      exact h2 (by omega)
    · rw [h138 e e0 q]
      have nx : zfrT p T e = false → z_ri m_X12_leastEdge 2 [some (2, 113), some (0, e + 1)] μ (d + 1) K := fun hf => ih q (by rw [← hz]; exact (zr_y (P := fun e => !zfrT p T e) q (by show (!zfrT p T e) = true; rw [hf]; rfl)).symm)
      have hit : zfrT p T e = true → K e μ := fun hf => by
        rw [zr_no (P := fun e => !zfrT p T e) (fun w => by have := w.2; rw [hf] at this; cases this)] at hz
        rw [hz] at q ⊢
        exact h1 q
      have fr : zfrT p T e = (decide (zto T e = 0) && (zin (pa p) (pr p) (zLl p T) (pq p e / 4) != zin (pa p) (pr p) (zLl p T) (pa p (pq p e) / 4))) := rfl
      obtain ⟨r1, r2, w3⟩ := zV_e hv (a := e) ⟨e0, q⟩
      obtain ⟨s1, s2, s3, s4, s5, s6⟩ := sk.2.1 _ r1.1 r1.2
      refine ⟨fun z => ⟨(by first | omega | exact ⟨by omega, by omega⟩), nx ?_⟩, fun z => ?_⟩
      · rw [fr, decide_eq_false z]
        rfl
      · rw [decide_eq_true z] at fr
        refine e12_first G w3 r1.1 ⟨e0, q⟩ ⟨(by first | omega | exact ⟨by omega, by omega⟩), e12_second G w3 r1 ⟨e0, q⟩ ⟨(by first | omega | exact ⟨by omega, by omega⟩), ?_⟩⟩
        rw [h139 _ (by omega) (by omega), h139 _ (by omega) (by omega)]
        cases i1 : zin (pa p) (pr p) (zLl p T) (pq p e / 4) with
        | true =>
          cases i2 : zin (pa p) (pr p) (zLl p T) (pa p (pq p e) / 4) with
          | true =>
            rw [i1, i2] at fr
            exact ⟨fun _ => ⟨(by first | omega | exact ⟨by omega, by omega⟩), nx fr⟩, fun w => absurd rfl w⟩
          | false =>
            rw [i1, i2] at fr
            exact ⟨fun w => absurd w (by decide), fun _ => hit fr⟩
        | false =>
          cases i2 : zin (pa p) (pr p) (zLl p T) (pa p (pq p e) / 4) with
          | true =>
            rw [i1, i2] at fr
            exact ⟨fun w => absurd w (by decide), fun _ => hit fr⟩
          | false =>
            rw [i1, i2] at fr
            exact ⟨fun _ => ⟨(by first | omega | exact ⟨by omega, by omega⟩), nx fr⟩, fun w => absurd rfl w⟩
  exact V_X12_leastEdge (key 0 (by omega) (by omega) rfl)
theorem e12_taken (hF : 0 ≤ pF p ∧ pF p ≤ 30) (e21 : μ 113 21 = pF p) (hr : ∀ f, zin (pa p) (pr p) L f = true → (0 ≤ f ∧ f < 30) ∧ f < pF p) (ht : zTr (pF p) (pa p) (pe p) (zTH T) (pr p) L) (h139 : ∀ f, 0 ≤ f → f < pF p → μ 139 f = zi (zin (pa p) (pr p) L f)) (hl : zLy (pa p) (pr p) (μ 135) (μ 136) (μ 137) L) (hk : K (zi (ztk p L x y)) μ) : z_ci m_X12_isTaken [(2, 113), (0, x), (0, y)] μ d K := by
  have pos := zLy_po ht hl
  have key : ∀ i : Int, 0 ≤ i → i ≤ pF p → (∀ j, 0 ≤ j → j < i → ¬ (zin (pa p) (pr p) L j = true ∧ (zpo (pa p) L j).1 = x ∧ (zpo (pa p) L j).2.1 = y)) → z_ri m_X12_isTaken 2 [some (2, 113), some (0, x), some (0, y), some (0, i)] μ d K := by
    refine z_up (fun i i0 i1 ih hno => V_X12_isTaken_2 ?_)
    rw [e21]
    refine ⟨fun q => ?_, fun q => ⟨(by first | omega | exact ⟨by omega, by omega⟩), ?_⟩⟩
    · have : ztk p L x y = false := by
        cases hz : ztk p L x y with
        | false => rfl
        | true =>
          obtain ⟨f, f1, f2, f3⟩ := (ztk_iff (fun f hf => (hr f hf).1)).mp hz
          exact absurd ⟨f1, f2, f3⟩ (hno f (hr f f1).1.1 (by have := (hr f f1).2; omega))
      rw [this] at hk
      exact hk
    · have nx : ¬ (zin (pa p) (pr p) L i = true ∧ (zpo (pa p) L i).1 = x ∧ (zpo (pa p) L i).2.1 = y) → z_ri m_X12_isTaken 2 [some (2, 113), some (0, x), some (0, y), some (0, i + 1)] μ d K := fun hn => ih q (fun j j0 j1 => by
        by_cases w : j = i
        · rw [w]
          exact hn
        · exact hno j j0 (by omega))
      rw [h139 i i0 q]
      cases hi : zin (pa p) (pr p) L i with
      | false => exact ⟨fun _ => ⟨(by first | omega | exact ⟨by omega, by omega⟩), nx (fun w => by rw [hi] at w; cases w.1)⟩, fun w => absurd rfl w⟩
      | true =>
        obtain ⟨p1, p2, _⟩ := pos i hi
        rw [p1, p2]
        refine ⟨fun w => absurd w (by decide), fun _ => ⟨(by first | omega | exact ⟨by omega, by omega⟩), fun z => ⟨(by first | omega | exact ⟨by omega, by omega⟩), nx (fun w => z w.2.1)⟩, fun z => ⟨(by first | omega | exact ⟨by omega, by omega⟩), fun z2 => ⟨(by first | omega | exact ⟨by omega, by omega⟩), nx (fun w => z2 w.2.2)⟩, fun z2 => ?_⟩⟩⟩
        have : ztk p L x y = true := (ztk_iff (fun f hf => (hr f hf).1)).mpr ⟨i, hi, z, z2⟩
        rw [this] at hk
        exact hk
  exact V_X12_isTaken (key 0 (by omega) (by omega) (fun j j0 j1 => by omega))
end FI

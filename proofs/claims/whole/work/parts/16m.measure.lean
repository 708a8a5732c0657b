/-! GLUINGS: measured alike; the class's lacks, itself -/
def zwk (u : Int → Int) (k : Int) : Int → Int := fun t => if t < k ∨ u t < k then u t else -1
section ME
variable {N a b c k : Int} {U : Int → Int → Prop} {A S G u : Int → Int} {p : zP} {μ : z_Mem} {d : Nat} {K : Int → z_Mem → Prop} {Kn : z_Mem → Prop}
theorem zN_ij {P : Int → Bool} {g : Int → Int} {k : Nat} : ∀ (n : Nat) (Q : Int → Bool), (∀ i : Int, 0 ≤ i → i < n → P i = true → (0 ≤ g i ∧ g i < k) ∧ Q (g i) = true) → (∀ i j : Int, 0 ≤ i → i < n → 0 ≤ j → j < n → P i = true → P j = true → g i = g j → i = j) → zN n P ≤ zN k Q
  | 0, Q, _, _ => (zN_r (P := Q) k).1
  | n + 1, Q, h, hi => by
    rw [zN_s]
    by_cases z : P n = true
    · have hn := h n (by omega) (by omega) z
      have ih := zN_ij (P := P) (g := g) (k := k) n (fun x => Q x && !decide (x = g n)) (fun i i0 i1 pi => ⟨(h i i0 (by omega) pi).1, by
        rw [(h i i0 (by omega) pi).2, decide_eq_false (fun e => by
          have := hi i n i0 (by omega) (by omega) (by omega) pi z e
          omega)]
        rfl⟩) (fun i j i0 i1 j0 j1 pi pj e => hi i j i0 (by omega) j0 (by omega) pi pj e)
      rw [zN_off hn.1 hn.2] at ih
      rw [zi_t z]
      omega
    · have ih := zN_ij (P := P) (g := g) (k := k) n Q (fun i i0 i1 pi => h i i0 (by omega) pi) (fun i j i0 i1 j0 j1 pi pj e => hi i j i0 (by omega) j0 (by omega) pi pj e)
      rw [zi_f (by
        cases hz : P n with
        | false => rfl
        | true => exact absurd hz z)]
      omega
/-- the least one of a point -/
noncomputable def zmn (N : Int) (U : Int → Int → Prop) (k : Int) : Int := zr (fun j => !zpd (zEq U j k)) N 0
theorem zmn_p (hk : 0 ≤ k ∧ k < N) : (0 ≤ zmn N U k ∧ zmn N U k < N) ∧ zEq U (zmn N U k) k ∧ zls U (zmn N U k) = true := by
  have h0 := zr_le (P := fun j => !zpd (zEq U j k)) (L := N) (p := 0) (by omega)
  have h1 := zr_hit (P := fun j => !zpd (zEq U j k)) (L := N) 0 (Int.le_refl _) (by omega) ⟨k, hk.1, hk.2, by rw [zpd_t zEq_r]; rfl⟩
  have h2 := zr_end (P := fun j => !zpd (zEq U j k)) (L := N) (p := 0) (by omega) h1
  have h3 := zr_all (P := fun j => !zpd (zEq U j k)) (L := N) 0 (Int.le_refl _) (by omega)
  have e : zEq U (zmn N U k) k := by
    have h2 : (!zpd (zEq U (zmn N U k) k)) = false := h2
    refine zpd_i.mp ?_
    cases hz : zpd (zEq U (zmn N U k) k) with
    | true => rfl
    | false => rw [hz] at h2; cases h2
  refine ⟨⟨h0.1, h1⟩, e, zpd_t (fun j j0 j1 q => ?_)⟩
  have := h3 j j0 j1
  rw [zpd_t (zEq_t q e)] at this
  cases this
theorem zls_eq {i j : Int} (i0 : 0 ≤ i) (j0 : 0 ≤ j) (hi : zls U i = true) (hj : zls U j = true) (e : zEq U i j) : i = j := by
  have hi := zpd_i.mp hi
  have hj := zpd_i.mp hj
  rcases (by omega : i < j ∨ i = j ∨ j < i) with z | z | z
  · exact absurd e (hj i i0 z)
  · exact z
  · exact absurd (zEq_s e) (hi j j0 z)
theorem zmi_lo {W : Int → Int} {c x : Int} : ∀ n : Nat, x ≤ c → (∀ i : Int, 0 ≤ i → i < n → x ≤ W i) → x ≤ zmi c n W
  | 0, h, _ => h
  | n + 1, h, hW => by
    have := zmi_lo (W := W) n h (fun i i0 i1 => hW i i0 (by omega))
    have := hW n (by omega) (by omega)
    show x ≤ min (zmi c n W) (W n)
    omega
theorem zmi_up {W : Int → Int} {c : Int} : ∀ n : Nat, zmi c n W ≤ c ∧ ∀ i : Int, 0 ≤ i → i < n → zmi c n W ≤ W i
  | 0 => ⟨Int.le_refl _, fun i i0 i1 => by omega⟩
  | n + 1 => by
    have ih := zmi_up (W := W) (c := c) n
    have e : zmi c (n + 1) W = min (zmi c n W) (W n) := rfl
    rw [e]
    refine ⟨by omega, fun i i0 i1 => ?_⟩
    by_cases z : i = n
    · rw [z]
      omega
    · have := ih.2 i i0 (by omega)
      omega
theorem zmeas_rep (hN : 0 ≤ N) (hP : zPt N A U S G) : zmeas N (fun k => decide (S k = k)) G b = zmeas N (zls U) (zwt N A U) b := by
  obtain ⟨L, R, W⟩ := hP
  have cN : ((N.toNat : Nat) : Int) = N := by omega
  have up : ∀ k, 0 ≤ k → k < N → (0 ≤ S k ∧ S k < N) ∧ S (S k) = S k ∧ zEq U (S k) k := fun k k0 k1 => ⟨(R k k0 k1).1, (R k k0 k1).2, (L (S k) k (R k k0 k1).1.1 (R k k0 k1).1.2 k0 k1).mp (R k k0 k1).2⟩
  have cnt : ∀ q : Int → Bool, zN N.toNat (fun k => decide (S k = k) && q (G k)) = zN N.toNat (fun k => zls U k && q (zwt N A U k)) := fun q => by
    refine Int.le_antisymm ?_ ?_
    · refine zN_ij (g := zmn N U) N.toNat _ (fun i i0 i1 pi => ?_) (fun i j i0 i1 j0 j1 pi pj e => ?_)
      · rw [cN] at i1 ⊢
        obtain ⟨p1, p2⟩ := Bool.and_eq_true_iff.mp pi
        obtain ⟨m1, m2, m3⟩ := zmn_p (U := U) ⟨i0, i1⟩
        refine ⟨m1, Bool.and_eq_true_iff.mpr ⟨m3, ?_⟩⟩
        rw [zwt_eq m2, ← W i i0 i1 (of_decide_eq_true p1)]
        exact p2
      · have p1 := of_decide_eq_true (Bool.and_eq_true_iff.mp pi).1
        have p2 := of_decide_eq_true (Bool.and_eq_true_iff.mp pj).1
        obtain ⟨_, m2, _⟩ := zmn_p (U := U) (N := N) (k := i) ⟨i0, by omega⟩
        obtain ⟨_, n2, _⟩ := zmn_p (U := U) (N := N) (k := j) ⟨j0, by omega⟩
        rw [e] at m2
        have := (L i j i0 (by omega) j0 (by omega)).mpr (zEq_t (zEq_s m2) n2)
        omega
    · refine zN_ij (g := S) N.toNat _ (fun i i0 i1 pi => ?_) (fun i j i0 i1 j0 j1 pi pj e => ?_)
      · rw [cN] at i1 ⊢
        obtain ⟨p1, p2⟩ := Bool.and_eq_true_iff.mp pi
        obtain ⟨m1, m2, m3⟩ := up i i0 i1
        refine ⟨m1, Bool.and_eq_true_iff.mpr ⟨decide_eq_true m2, ?_⟩⟩
        rw [W _ m1.1 m1.2 m2, zwt_eq m3]
        exact p2
      · have p1 := (Bool.and_eq_true_iff.mp pi).1
        have p2 := (Bool.and_eq_true_iff.mp pj).1
        exact zls_eq i0 j0 p1 p2 ((L i j i0 (by omega) j0 (by omega)).mp e)
  have c1 := cnt (fun _ => true)
  have c2 := cnt (fun x => decide (x < 4))
  have e1 : (fun k => decide (S k = k) && (fun _ => true) (G k)) = (fun k => decide (S k = k)) := funext fun k => by simp
  have e2 : (fun k => zls U k && (fun _ => true) (zwt N A U k)) = zls U := funext fun k => by simp
  rw [e1, e2] at c1
  unfold zmeas
  rw [c1]
  by_cases b0 : b = 0
  · rw [if_pos b0, if_pos b0]
  · rw [if_neg b0, if_neg b0]
    by_cases b1 : b = 1
    · rw [if_pos b1, if_pos b1]
      exact c2
    · rw [if_neg b1, if_neg b1]
      have a1 := zmi_up (W := fun k => if decide (S k = k) = true then G k else 4) (c := 4) N.toNat
      have a2 := zmi_up (W := fun k => if zls U k = true then zwt N A U k else 4) (c := 4) N.toNat
      refine Int.le_antisymm (zmi_lo _ a1.1 (fun i i0 i1 => ?_)) (zmi_lo _ a2.1 (fun i i0 i1 => ?_))
      · show _ ≤ (if zls U i = true then zwt N A U i else 4)
        split
        · obtain ⟨m1, m2, m3⟩ := up i i0 (by omega)
          have := a1.2 (S i) m1.1 (by omega)
          have e : (if decide (S (S i) = S i) = true then G (S i) else 4) = zwt N A U i := by
            show (if decide (S (S i) = S i) = true then G (S i) else 4) = _
            rw [if_pos (decide_eq_true m2), W _ m1.1 m1.2 m2, zwt_eq m3]
          rw [e] at this
          exact this
        · exact a1.1
      · show _ ≤ (if decide (S i = i) = true then G i else 4)
        split
        · rename_i z
          have z := of_decide_eq_true z
          obtain ⟨m1, m2, m3⟩ := zmn_p (U := U) (N := N) (k := i) ⟨i0, by omega⟩
          have := a2.2 _ m1.1 (by omega)
          have e : (if zls U (zmn N U i) = true then zwt N A U (zmn N U i) else 4) = G i := by
            show (if zls U (zmn N U i) = true then zwt N A U (zmn N U i) else 4) = _
            rw [if_pos m3, zwt_eq m2, W i i0 (by omega) z]
          rw [e] at this
          exact this
        · exact a2.1
theorem zwk_1 {t : Int} (h : t < k ∨ u t < k) : zwk u k t = u t := by unfold zwk; rw [if_pos h]
theorem zwk_0 {t : Int} (h : ¬ (t < k ∨ u t < k)) : zwk u k t = -1 := by unfold zwk; rw [if_neg h]
theorem e_measure (hu : zFu N A u) (hn : 0 < N ∧ N ≤ 22) (hA : ∀ j, 0 ≤ j → j < N → 0 ≤ A j ∧ A j ≤ 120) (h44 : μ 44 3 = N) (h41 : ∀ t, 0 ≤ t → t < N → μ 41 t = A t) (h45 : ∀ t, 0 ≤ t → t < N → μ 45 t = u t) (hk : ∀ m, (∀ o x, o ≠ 50 → o ≠ 63 → m o x = μ o x) → K (zms N A u b) m) : z_ci m_X1_measure [(2, 44), (2, 39), (0, b)] μ (d + 2) K := by
  obtain ⟨⟨v1, v2, v3, v4, v5, v6, v7⟩, va⟩ := id hu
  have hA' : ∀ j, 0 ≤ j → j < N → 0 ≤ A j := fun j j0 j1 => (hA j j0 j1).1
  have three : ∀ m : z_Mem, (∀ o x, o ≠ 50 → o ≠ 63 → m o x = μ o x) → zPt N A (zU N u) (m 50) (m 63) → ∀ (j i : Nat), (i : Int) + j = N → z_ri m_X1_measure 89 [some (2, 44), none, some (0, b), some (0, zN i (fun k => decide (m 50 k = k))), some (0, zN i (fun k => decide (m 50 k = k) && decide (m 63 k < 4))), some (0, zmi 4 i (fun k => if decide (m 50 k = k) = true then m 63 k else 4)), some (0, (i : Int))] m (d + 2) K := by
    intro m hf hP j
    have fin := hk m hf
    have eq : zms N A u b = zmeas N (fun k => decide (m 50 k = k)) (m 63) b := (zmeas_rep (by omega) hP).symm
    rw [eq] at fin
    unfold zmeas at fin
    have c44 : m 44 3 = N := by rw [hf 44 3 (by decide) (by decide)]; exact h44
    have sr : ∀ k, 0 ≤ k → k < N → m 50 k = k → 0 ≤ m 63 k ∧ m 63 k ≤ 3000 := fun k k0 k1 e => by
      rw [hP.2.2 k k0 k1 e]
      exact zwt_r hA hn hP.1 ⟨k0, k1⟩
    induction j with
    | zero =>
      intro i hi
      refine V_X1_measure_89 ?_
      rw [c44]
      rw [show N.toNat = i by omega] at fin
      refine ⟨fun _ => ⟨fun b0 => ⟨fun b1 => ?_, fun b1 => ?_⟩, fun b0 => ?_⟩, fun z => by omega⟩
      · rw [if_neg b0, if_neg b1] at fin
        exact fin
      · rw [if_neg b0, if_pos b1] at fin
        exact fin
      · rw [if_pos b0] at fin
        exact fin
    | succ j ih =>
      intro i hi
      have nx := ih (i + 1) (by omega)
      have n1 := (zN_r (P := fun k => decide (m 50 k = k)) i).2
      have n1' := (zN_r (P := fun k => decide (m 50 k = k)) i).1
      have n2 := (zN_r (P := fun k => decide (m 50 k = k) && decide (m 63 k < 4)) i).2
      have n2' := (zN_r (P := fun k => decide (m 50 k = k) && decide (m 63 k < 4)) i).1
      have mi := zmi_le4 (W := fun k => if decide (m 50 k = k) = true then m 63 k else 4) i
      have em : zmi 4 (i + 1) (fun k => if decide (m 50 k = k) = true then m 63 k else 4) = min (zmi 4 i (fun k => if decide (m 50 k = k) = true then m 63 k else 4)) (if decide (m 50 i = i) = true then m 63 i else 4) := rfl
      rw [zN_s, zN_s, em] at nx
      refine V_X1_measure_89 ?_
      rw [c44]
      refine ⟨fun z => by omega, fun z => ⟨(by first | omega | exact ⟨by omega, by omega⟩), fun z2 => ⟨(by first | omega | exact ⟨by omega, by omega⟩), ?_⟩, fun z2 => ⟨(by first | omega | exact ⟨by omega, by omega⟩), (by first | omega | exact ⟨by omega, by omega⟩), fun z3 => ⟨(by first | omega | exact ⟨by omega, by omega⟩), (by first | omega | exact ⟨by omega, by omega⟩), (by first | omega | exact ⟨by omega, by omega⟩), ?_⟩, fun z3 => ⟨(by first | omega | exact ⟨by omega, by omega⟩), (by first | omega | exact ⟨by omega, by omega⟩), (by first | omega | exact ⟨by omega, by omega⟩), ?_⟩⟩⟩⟩
      · rw [decide_eq_false z2, if_neg (by decide)] at nx
        have e1 : zi false = 0 := rfl
        have e2 : zi (false && decide (m 63 i < 4)) = 0 := rfl
        rw [e1, e2, Int.add_zero, Int.add_zero, show min (zmi 4 i (fun k => if decide (m 50 k = k) = true then m 63 k else 4)) 4 = zmi 4 i (fun k => if decide (m 50 k = k) = true then m 63 k else 4) by omega] at nx
        exact nx
      · rw [decide_eq_true z2, decide_eq_false (by omega), if_pos rfl] at nx
        exact nx
      · rw [decide_eq_true z2, decide_eq_true z3, if_pos rfl] at nx
        exact nx
  have two : ∀ k, 0 ≤ k → k ≤ N → ∀ m : z_Mem, (∀ o x, o ≠ 50 → o ≠ 63 → m o x = μ o x) → zPt N A (zU N (zwk u k)) (m 50) (m 63) → z_ri m_X1_measure 41 [some (2, 44), none, some (0, b), some (0, k), none, none, none] m (d + 2) K := by
    refine z_up (fun k k0 kN ih m hf hP => V_X1_measure_41 ?_)
    have c44 : m 44 3 = N := by rw [hf 44 3 (by decide) (by decide)]; exact h44
    rw [c44]
    refine ⟨fun z => ?_, fun z => ?_⟩
    · obtain rfl : k = N := by omega
      exact three m hf (zPt_cg hP (zU_ag (fun t t0 t1 => zwk_1 (Or.inl t1)))) k.toNat 0 (by omega)
    · have uk := v3 k k0 z
      obtain ⟨iu, inu⟩ := v5 k k0 z uk
      have uN := (v4 k k0 z).2
      rw [hf 45 k (by decide) (by decide), h45 k k0 z]
      refine ⟨(by first | omega | exact ⟨by omega, by omega⟩), fun z2 => ⟨(by first | omega | exact ⟨by omega, by omega⟩), ih z m hf (zPt_cg hP (zU_ag (fun t t0 t1 => ?_)))⟩, fun z2 => ⟨(by first | omega | exact ⟨by omega, by omega⟩), ?_⟩⟩
      · have ut := v3 t t0 t1
        have iut := (v5 t t0 t1 ut).1
        by_cases y : t < k ∨ u t < k
        · rw [zwk_1 y, zwk_1 (by omega)]
        · by_cases y2 : t = k
          · exact absurd (Or.inr (by rw [y2]; omega)) y
          · have : u t ≠ k := fun w => by
              rw [w] at iut
              omega
            rw [zwk_0 y, zwk_0 (by omega)]
      · have ok : zwk u k k = -1 := zwk_0 (by omega)
        have ou : zwk u k (u k) = -1 := zwk_0 (by rw [iu]; omega)
        have eU := zU_pt (N := N) (w := zwk u k) k0 z2 uN ok ou
        have ext : ∀ t, 0 ≤ t → t < N → zgp (zwk u k) k (u k) t = zwk u (k + 1) t := fun t t0 t1 => by
          have ut := v3 t t0 t1
          have iut := (v5 t t0 t1 ut).1
          by_cases y : t = k
          · rw [y, zgp_1, zwk_1 (by omega)]
          · by_cases y2 : t = u k
            · rw [y2, zgp_2 (by omega), zwk_1 (by rw [iu]; omega), iu]
            · rw [zgp_3 y y2]
              have : u t ≠ k := fun w => y2 (by rw [← w, iut])
              by_cases y3 : t < k ∨ u t < k
              · rw [zwk_1 y3, zwk_1 (by omega)]
              · rw [zwk_0 y3, zwk_0 (by omega)]
        have sub : ∀ x y, zEq (zad (zad (zU N (zwk u k)) k ((u k + 1) % N)) (k + 1) (u k)) x y → zEq (zU N u) x y := fun x y q => by
          have q := (eU x y).mpr q
          refine zex_U (N := N) (fun t t0 t1 q2 => ?_) x y q
          rw [ext t t0 t1] at q2 ⊢
          by_cases y3 : t < k + 1 ∨ u t < k + 1
          · exact (zwk_1 y3).symm
          · rw [zwk_0 y3] at q2
            omega
        refine e_glueTwo (d := d) (D := 0) (by decide) hn (zU_rg hn.1) hA c44 hP k0 z2 uN (fun m2 f2 P2 _ _ => ⟨(by first | omega | exact ⟨by omega, by omega⟩), ih z m2 (fun o x a b => by rw [f2 o x a b]; exact hf o x a b) (zPt_cg P2 (fun x y => (eU x y).symm.trans (zU_ag ext x y)))⟩) (fun m2 f2 bad => ?_)
        exfalso
        rcases bad with bad | bad
        · have := zwt_le (N := N) (A := A) (k := k) hA' (fun j q => sub j k (zEq_ad q))
          have := va k k0 z
          omega
        · have := zwt_le (N := N) (A := A) (k := k + 1) hA' (fun j q => sub j (k + 1) q)
          have := va (k + 1) (by omega) (by omega)
          omega
  have one : ∀ k, 0 ≤ k → k ≤ N → ∀ m : z_Mem, (∀ o x, o ≠ 50 → o ≠ 63 → m o x = μ o x) → (∀ t, 0 ≤ t → t < k → m 50 t = t ∧ m 63 t = A t) → z_ri m_X1_measure 2 [some (2, 44), some (2, 39), some (0, b), some (0, k), none, none, none] m (d + 2) K := by
    refine z_up (fun k k0 kN ih m hf hm => V_X1_measure_2 ?_)
    rw [hf 44 3 (by decide) (by decide), h44]
    refine ⟨fun z => ?_, fun z => ⟨(by first | omega | exact ⟨by omega, by omega⟩), (by first | omega | exact ⟨by omega, by omega⟩), (by first | omega | exact ⟨by omega, by omega⟩), (by first | omega | exact ⟨by omega, by omega⟩), ?_⟩⟩
    · obtain rfl : k = N := by omega
      refine two 0 (by omega) (by omega) m hf (zPt_cg (zPt_0 hn.1 (fun t t0 t1 => (hm t t0 t1).1) (fun t t0 t1 => (hm t t0 t1).2)) (zU_ag (fun t t0 t1 => ?_)))
      have := v3 t t0 t1
      exact (zwk_0 (by omega)).symm
    · rw [z_st_ne (show (41 : Int) ≠ 50 by decide), hf 41 k (by decide) (by decide), h41 k k0 z]
      refine ih z _ (fun o x y y2 => by rw [z_st_ne y2, z_st_ne y]; exact hf o x y y2) (fun t t0 t1 => ?_)
      by_cases y : t = k
      · rw [y, z_st_ne (by decide), z_st_eq, z_st_eq]
        exact ⟨rfl, rfl⟩
      · rw [z_st_ne (by decide), z_st_ni y, z_st_ni y, z_st_ne (by decide)]
        exact hm t t0 (by omega)
  exact V_X1_measure (one 0 (by omega) (by omega) μ (fun _ _ _ _ => rfl) (fun t t0 t1 => by omega))
theorem e_lacks (hv : zV p) (hc : zCn' μ p) (h64 : z64 p) (hb : zBd μ p) (hg : zKg μ p) (hk : ∀ m, zfC μ m → zBd m p → zKg m p → K (zaL p a b) m) : z_ci m_X11_lacks [(2, 1), (0, a), (0, b)] μ (d + 8) K := by
  have F0 : 0 ≤ pF p ∧ pF p ≤ 30 := (zV_sk hv).1
  have un : zaL p a b = if zpd (zWo p) = true ∧ 0 ≤ a ∧ 0 ≤ b ∧ b ≤ 2 then (if 22 < zRN p then -3 else if a < ((zgL p).length : Int) then zms (zRN p) (zrA p) (zlat (zgL p) a.toNat) b else -1) else -1 := rfl
  refine V_X11_lacks (e_traceB hv hc hb (fun hw m1 f1 k1 b1 => zy1' ?_) (fun hw => zy0' ?_))
  · have Fp := hw.1
    have c1 := zCn_fr (m := m1) hc (fun x i w => f1 x i (by omega) (by omega))
    have g1 : zKg m1 p := zKg_fr hg (f1 44 0 (by decide) (by decide)) (f1 44 1 (by decide) (by decide)) (f1 44 3 (by decide) (by decide)) (fun i => f1 46 i (by omega) (by decide))
    have F1 : zfC μ m1 := fun x i a b _ _ => f1 x i a b
    have ft : ∀ m, zfC m1 m → zfC μ m := fun m f x i a b c e => by rw [f x i a b c e]; exact f1 x i a b
    have nil : ¬ (0 ≤ a ∧ 0 ≤ b ∧ b ≤ 2) → K (-1) m1 := fun w => by
      have := hk m1 F1 (fun _ _ => b1) g1
      rw [un, if_neg (fun z => w ⟨z.2.1, z.2.2.1, z.2.2.2⟩)] at this
      exact this
    refine ⟨fun q => nil (by omega), fun q => ⟨fun q2 => nil (by omega), fun q2 => ⟨fun q3 => ?_, fun q3 => nil (by omega)⟩⟩⟩
    have cond : zpd (zWo p) = true ∧ 0 ≤ a ∧ 0 ≤ b ∧ b ≤ 2 := ⟨zpd_t hw, q, q2, q3⟩
    rw [if_pos cond] at un
    refine e_gluB hv c1 h64 (fun _ _ => b1) g1 (fun x => absurd hw x) (fun _ h22 m f b g => ?_) (fun _ h22 m f b3 k g => ?_)
    · have := hk m (ft m f) (fun _ _ => b) g
      rw [un, if_pos h22] at this
      exact ⟨fun z => absurd z (by decide), fun _ => this⟩
    · have h22' : 2 * pF p + 2 ≤ 22 := h22
      rw [if_neg (by omega)] at un
      refine ⟨fun _ => e_unpack hw h22 h64 g k (fun nin => zy0' ?_) (fun a0 a1 m2 f2 w2 => zy1' ?_), fun z => by omega⟩
      · have := hk m (ft m f) (fun _ _ => b3) g
        rw [un, if_neg (by omega)] at this
        exact this
      · have hu := zgL_el hw _ (zlat_mem (zgL p) a.toNat (by omega))
        refine e_measure hu ⟨by show 0 < 2 * pF p + 2; omega, h22⟩ (fun j j0 j1 => ?_) (by rw [f2 44 3 (by decide)]; exact (g k).2.2.1) (fun t t0 t1 => by rw [f2 41 t (by decide)]; exact (b3.2 t t0 t1).2.1) w2 (fun m3 f3 => ?_)
        · have := zrA_r hv hw (k := j) ⟨j0, j1⟩
          omega
        · have := hk m3 (ft m3 (fun x i a b c e => by rw [f3 x i (by omega) (by omega), f2 x i (by omega)]; exact f x i a b c e)) (fun _ _ => zBor_fr b3 (by rw [f3 39 1 (by decide) (by decide), f2 39 1 (by decide)]) (fun x i _ _ => by rw [f3 x i (by omega) (by omega), f2 x i (by omega)])) (zKg_fr g (by rw [f3 44 0 (by decide) (by decide), f2 44 0 (by decide)]) (by rw [f3 44 1 (by decide) (by decide), f2 44 1 (by decide)]) (by rw [f3 44 3 (by decide) (by decide), f2 44 3 (by decide)]) (fun i => by rw [f3 46 i (by decide) (by decide), f2 46 i (by decide)]))
          rw [un, if_pos a1] at this
          exact this
  · have := hk μ (fun _ _ _ _ _ _ => rfl) hb hg
    rw [(zaG_n hw).2.2.2] at this
    exact this
theorem zk42 : z_kd 42 = 14 ∧ z_ln 42 = 62 := by constructor <;> decide +kernel
theorem e_itself (hv : zV p) (hc : zCn' μ p) (h64 : z64 p) (hb : zBd μ p) (hg : zKg μ p) (hk : ∀ m, zfC μ m → zBd m p → zKg m p → K (zaI p) m) : z_ci m_X11_itself [(2, 1)] μ (d + 8) K := by
  have F0 : 0 ≤ pF p ∧ pF p ≤ 30 := (zV_sk hv).1
  refine V_X11_itself (e_gluB hv hc h64 hb hg (fun hw => ?_) (fun hw q m f b g => ?_) (fun hw q m f b k g => ?_))
  · have := hk μ (fun _ _ _ _ _ _ => rfl) hb hg
    rw [(zaG_n (a := 0) (b := 0) hw).2.1] at this
    exact ⟨fun z => absurd z (by decide), fun _ => this⟩
  · have := hk m f (fun _ _ => b) g
    rw [(zaG_w hw).2, if_pos q] at this
    exact ⟨fun z => absurd z (by decide), fun _ => this⟩
  · have q' : 2 * pF p + 2 ≤ 22 := q
    have Fp := hw.1
    have hn : 0 < zRN p ∧ zRN p ≤ 22 := ⟨by show 0 < 2 * pF p + 2; omega, q⟩
    have l64 := h64 hw q
    obtain ⟨_, _, g1, g2, g3⟩ := g k
    have fin : ∀ m', (∀ o x, o ≠ 45 → m' o x = m o x) → K (zfi (zow p) (zgL p) 0) m' := fun m' f2 => by
      have := hk m' (fun x i a b c e => by rw [f2 x i (by omega)]; exact f x i a b c e) (fun _ _ => zBor_fr b (f2 39 1 (by decide)) (fun x i _ _ => f2 x i (by omega))) (zKg_fr g (f2 44 0 (by decide)) (f2 44 1 (by decide)) (f2 44 3 (by decide)) (fun i => f2 46 i (by decide)))
      rw [(zaG_w hw).2, if_neg (by omega)] at this
      exact this
    have cNn : (((zRN p).toNat : Nat) : Int) = zRN p := by show (((2 * pF p + 2).toNat : Nat) : Int) = 2 * pF p + 2; omega
    refine ⟨fun _ => V_X1_numberOf (e_wordOf (N := zRN p) (u := zrP p) zk42 g1 hn (by decide) (fun t t0 t1 => (b.2 t t0 t1).2.2) ?_), fun z => by omega⟩
    have loop : ∀ (suf pre : List (Int → Int)) (m' : z_Mem), zgL p = pre ++ suf → (∀ o x, o ≠ 45 → m' o x = m o x) → zfi (zow p) (zgL p) 0 = zfi (zow p) suf pre.length → z_ri m_X1_numberOf 11 [some (2, 44), some (2, 39), some (0, zwd (zrP p) (zRN p).toNat), some (0, (pre.length : Int))] m' (d + 7) K := by
      intro suf
      induction suf with
      | nil =>
        intro pre m' e f2 hz
        rw [List.append_nil] at e
        refine V_X1_numberOf_11 ?_
        rw [f2 44 1 (by decide), g2, e]
        refine ⟨fun _ => ?_, fun z => by omega⟩
        have := fin m' f2
        rw [hz] at this
        exact this
      | cons u suf ih =>
        intro pre m' e f2 hz
        have len : (zgL p).length = pre.length + (suf.length + 1) := by rw [e, List.length_append, List.length_cons]
        have eu : zlat (zgL p) pre.length = u := by rw [e]; exact zlat_at pre
        have wu : m' 46 (pre.length : Int) = zwd u (zRN p).toNat := by
          rw [f2 46 _ (by decide), g3 pre.length (by omega), eu]
        have hz2 : zfi (zow p) (zgL p) 0 = if zow p u = true then (pre.length : Int) else zfi (zow p) suf ((pre.length : Int) + 1) := hz
        have nx : zow p u = false → ∀ m2, (∀ o x, o ≠ 45 → m2 o x = m o x) → z_ri m_X1_numberOf 11 [some (2, 44), some (2, 39), some (0, zwd (zrP p) (zRN p).toNat), some (0, (pre.length : Int) + 1)] m2 (d + 7) K := fun hq m2 f3 => by
          rw [hq, if_neg (by decide)] at hz2
          have := ih (pre ++ [u]) m2 (by rw [e, List.append_assoc]; rfl) f3 (by rw [hz2, List.length_append]; rfl)
          rw [List.length_append] at this
          exact this
        have G2 : zKg m' p := zKg_fr g (f2 44 0 (by decide)) (f2 44 1 (by decide)) (f2 44 3 (by decide)) (fun i => f2 46 i (by decide))
        refine V_X1_numberOf_11 ?_
        rw [f2 44 1 (by decide), g2, wu]
        refine ⟨fun z => by omega, fun z => ⟨(by first | omega | exact ⟨by omega, by omega⟩), fun ne => ⟨(by first | omega | exact ⟨by omega, by omega⟩), nx ?_ m' f2⟩, fun eq => ?_⟩⟩
        · cases hq : zow p u with
          | false => rfl
          | true =>
            refine absurd (zwd_ag _ (fun t t0 t1 => ?_)) ne
            exact (zpd_i.mp hq) t t0 (by omega)
        · refine e_unpack hw q h64 G2 (by rw [f2 44 0 (by decide)]; exact k) (fun nin => by omega) (fun a0 a1 m2 f3 w3 => ⟨fun z2 => absurd z2 (by decide), fun _ => ?_⟩)
          rw [show ((pre.length : Int)).toNat = pre.length by omega, eu] at w3
          have f3' : ∀ o x, o ≠ 45 → m2 o x = m o x := fun o x y => by rw [f3 o x y]; exact f2 o x y
          have key : ∀ k, 0 ≤ k → k ≤ zRN p → (∀ t, 0 ≤ t → t < k → u t = zrP p t) → z_ri m_X1_isGluedLike 2 [some (2, 44), some (2, 42), some (0, k)] m2 (d + 6) (fun x12 m10 => (x12 = 0 → z_I ((pre.length : Int) + 1) ∧ (z_ri m_X1_numberOf 11 [some (2, 44), some (2, 39), some (0, zwd (zrP p) (zRN p).toNat), some (0, (pre.length : Int) + 1)] m10 (d + 7) K)) ∧ (¬ x12 = 0 → K (pre.length : Int) m10)) := by
            refine z_up (fun k k0 k1 ih2 hm => V_X1_isGluedLike_2 ?_)
            rw [f3' 44 3 (by decide), g1]
            refine ⟨fun z3 => ?_, fun z3 => ?_⟩
            · have hq : zow p u = true := zpd_t (fun t t0 t1 => hm t t0 (by omega))
              rw [hq, if_pos rfl] at hz2
              have := fin m2 f3'
              rw [hz2] at this
              exact ⟨fun x => absurd x (by decide), fun _ => this⟩
            · rw [w3 k k0 z3, f3' 42 k (by decide), (b.2 k k0 z3).2.2]
              refine ⟨(by first | omega | exact ⟨by omega, by omega⟩), (by first | omega | exact ⟨by omega, by omega⟩), fun e2 => ⟨(by first | omega | exact ⟨by omega, by omega⟩), ih2 z3 (fun t t0 t1 => ?_)⟩, fun e2 => ⟨fun _ => ⟨(by first | omega | exact ⟨by omega, by omega⟩), nx (zpd_f (fun x => e2 (x k k0 z3))) m2 f3'⟩, fun x => absurd rfl x⟩⟩
              by_cases y : t = k
              · rw [y]
                exact e2
              · exact hm t t0 (by omega)
          exact V_X1_isGluedLike (key 0 (by omega) (by omega) (fun t t0 t1 => by omega))
    exact loop (zgL p) [] m rfl (fun _ _ _ => rfl) rfl
end ME

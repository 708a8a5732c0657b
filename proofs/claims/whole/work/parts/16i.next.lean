/-! GLUINGS: the class's next one -/
section NX
variable {N e i D : Int} {f : Nat} {hs : List Int} {A w : Int → Int} {d : Nat} {K : Int → z_Mem → Prop}
theorem zPt_rd {U : Int → Int → Prop} {S S' G G' : Int → Int} (h : zPt N A U S G) (hS : ∀ t, 0 ≤ t → t < N → S' t = S t) (hG : ∀ t, 0 ≤ t → t < N → G' t = G t) : zPt N A U S' G' := by
  obtain ⟨h1, h2, h3⟩ := h
  refine ⟨fun a b a0 a1 b0 b1 => by rw [hS a a0 a1, hS b b0 b1]; exact h1 a b a0 a1 b0 b1, fun k k0 k1 => ?_, fun r r0 r1 er => ?_⟩
  · obtain ⟨x, y⟩ := h2 k k0 k1
    rw [hS k k0 k1, hS _ x.1 x.2]
    exact ⟨x, y⟩
  · rw [hS r r0 r1] at er
    rw [hG r r0 r1]
    exact h3 r r0 r1 er
theorem zlat_l : ∀ (L M : List (Int → Int)) (n : Nat), n < L.length → zlat (L ++ M) n = zlat L n
  | [], _, n, h => absurd h (Nat.not_lt_zero n)
  | _ :: _, _, 0, _ => rfl
  | _ :: L, M, n + 1, h => zlat_l L M n (Nat.lt_of_succ_lt_succ h)
theorem zlat_r : ∀ (L M : List (Int → Int)) (n : Nat), zlat (L ++ M) (L.length + n) = zlat M n
  | [], _, n => by rw [show ([] : List (Int → Int)).length + n = n from Nat.zero_add n]; rfl
  | x :: L, M, n => by
    rw [show (x :: L).length + n = (L.length + n) + 1 by rw [List.length_cons]; omega]
    exact zlat_r L M n
theorem e_glueNx (hn : 0 < N ∧ N ≤ 22) (hA : ∀ j, 0 ≤ j → j < N → 0 ≤ A j ∧ A j ≤ 120) (v : zIv N w i hs) (hie : i < zen N hs) (hD : 0 ≤ D ∧ D < 11) : ∀ (n : Nat) (j : Int) (m : z_Mem), i < j → (j - i) % 2 = 1 → j + 2 * n = zen N hs + 1 → zSV N A D w m → (zcdt (zGl N A f) w i hs n j = [] → ∀ m', (∀ o x, o ≠ 51 + D → o ≠ 64 + D → m' o x = m o x) → K 0 m') → (∀ (n' : Nat) (j' : Int), n' < n → i < j' → (j' - i) % 2 = 1 → j' + 2 * ((n' : Int) + 1) = zen N hs + 1 → zcdt (zGl N A f) w i hs n j = zGl N A f (zgp w i j') (i + 1) (j' :: hs) ++ zcdt (zGl N A f) w i hs n' (j' + 2) → ∀ m', (∀ o x, o ≠ 51 + D → o ≠ 64 + D → o ≠ 45 → ¬ (o = 48 ∧ x = D) → m' o x = m o x) → m' 48 D = j' → zSV N A (D + 1) (zgp w i j') m' → K 1 m') → z_ri m_X1_glueNext 16 [some (2, 44), some (0, D), some (0, i), some (0, j)] m (d + 2) K := by
  obtain ⟨l1, l2, l3, l4, l5⟩ := zHg_le v.2.1
  have i0 := v.1
  intro n
  induction n with
  | zero =>
    intro j m h1 h2 h3 hm k0 k1
    obtain ⟨s1, s2, s3, s4⟩ := hm
    have fin : K 0 m := k0 rfl m (fun _ _ _ _ => rfl)
    refine V_X1_glueNext_16 ?_
    rw [s1]
    refine ⟨fun _ => fin, fun q => ⟨(by first | omega | exact ⟨by omega, by omega⟩), ⟨by omega, by omega⟩, fun _ => fin, fun z => ?_⟩⟩
    rw [s2 _ (by omega) (by omega)] at z
    cases hs with
    | nil =>
      have : j + 2 * ((0 : Nat) : Int) = N + 1 := h3
      omega
    | cons h hs =>
      have h3 : j + 2 * ((0 : Nat) : Int) = h + 1 := h3
      have := v.2.1.2.2.2.1
      rw [show j - 1 = h by omega] at z
      omega
  | succ n ih =>
    intro j m h1 h2 h3 hm k0 k1
    obtain ⟨s1, s2, s3, s4⟩ := hm
    obtain ⟨p1, p2, p3, p4, p5⟩ := zIv_put v h1 (by omega) h2
    have eL : zcdt (zGl N A f) w i hs (n + 1) j = zGl N A f (zgp w i j) (i + 1) (j :: hs) ++ zcdt (zGl N A f) w i hs n (j + 2) := rfl
    rw [eL] at k0 k1
    have mj : m 45 j = -1 := by rw [s2 j (by omega) p5]; exact p3
    have mj1 : m 45 (j - 1) = -1 := by rw [s2 _ (by omega) (by omega)]; exact l5 _ (by omega) (by omega)
    refine V_X1_glueNext_16 ?_
    rw [s1, mj1]
    have e44 : z_cpy m (50 + D) 0 (50 + (D + 1)) 0 N 44 3 = N := by rw [z_cpy_ne (by omega)]; exact s1
    rw [e44]
    generalize hm1 : z_cpy (z_cpy m (50 + D) 0 (50 + (D + 1)) 0 N) (63 + D) 0 (63 + (D + 1)) 0 N = m1
    have f1 : ∀ o x, o ≠ 51 + D → o ≠ 64 + D → m1 o x = m o x := fun o x a b => by
      rw [← hm1, z_cpy_ne (by omega), z_cpy_ne (by omega)]
    have S1 : ∀ t, 0 ≤ t → t < N → m1 (50 + (D + 1)) t = m (50 + D) t := fun t t0 t1 => by
      rw [← hm1, z_cpy_ne (by omega), z_cpy_in (by omega), show 0 + (t - 0) = t by omega]
    have G1 : ∀ t, 0 ≤ t → t < N → m1 (63 + (D + 1)) t = m (63 + D) t := fun t t0 t1 => by
      rw [← hm1, z_cpy_in (by omega), show 0 + (t - 0) = t by omega, z_cpy_ne (by omega)]
    have P1 : zPt N A (zU N w) (m1 (50 + (D + 1))) (m1 (63 + (D + 1))) := zPt_rd s3 S1 G1
    have c44 : m1 44 3 = N := by rw [f1 44 3 (by omega) (by omega)]; exact s1
    have c45 : m1 45 j = -1 := by rw [f1 45 j (by omega) (by omega)]; exact mj
    rw [c45]
    refine ⟨fun q => by omega, fun q => ⟨⟨by omega, by omega⟩, ⟨by omega, by omega⟩, fun z => absurd rfl z, fun _ => ⟨⟨by omega, by omega⟩, ⟨by omega, by omega⟩, ⟨by omega, by omega⟩, ⟨by omega, by omega, by omega⟩, ⟨by omega, by omega⟩, ⟨by omega, by omega⟩, ⟨by omega, by omega⟩, ⟨by omega, by omega, by omega⟩, ⟨by omega, by omega⟩, fun z => absurd rfl z, fun _ => ⟨⟨by omega, by omega⟩, ?_⟩⟩⟩⟩
    have rg : zRg N (zU N w) := zU_rg hn.1
    have m0' := Int.emod_nonneg (j + 1) (b := N) (by omega)
    have m1' := Int.emod_lt_of_pos (j + 1) (b := N) hn.1
    have rg1 : zRg N (zad (zU N w) i ((j + 1) % N)) := zRg_ad rg ⟨p4, by omega⟩ ⟨m0', m1'⟩
    have eU := zU_pt (N := N) (w := w) p4 h1 p5 p2 p3
    refine e_glueTwo (d := d) (D := D + 1) (by omega) hn rg hA c44 P1 p4 h1 p5 (fun m2 f2 P2 q1 q2 => ?_) (fun m2 f2 bad => ?_)
    · refine ⟨fun z => absurd z (by decide), fun _ => ⟨⟨by omega, by omega⟩, ⟨by omega, by omega⟩, ⟨by omega, by omega⟩, ?_⟩⟩
      have f2' : ∀ o x, o ≠ 51 + D → o ≠ 64 + D → m2 o x = m o x := fun o x a b => by rw [f2 o x (by omega) (by omega)]; exact f1 o x a b
      generalize hm3 : z_st (z_st (z_st m2 45 i j) 45 j i) 48 D j = m3
      have f3 : ∀ o x, o ≠ 45 → ¬ (o = 48 ∧ x = D) → m3 o x = m2 o x := fun o x a b => by rw [← hm3, z_st_nx b, z_st_ne a, z_st_ne a]
      refine k1 n j (by omega) h1 h2 (by omega) rfl m3 (fun o x a b c g => by rw [f3 o x c g]; exact f2' o x a b) (by rw [← hm3, z_st_eq]) ⟨by rw [f3 44 3 (by decide) (by omega), f2' 44 3 (by omega) (by omega)]; exact s1, fun t t0 t1 => ?_, ?_, fun x x0 x1 xw => ?_⟩
      · rw [← hm3, z_st_ne (by decide)]
        by_cases y : t = j
        · rw [y, z_st_eq, zgp_2 (by omega)]
        · rw [z_st_ni y]
          by_cases y2 : t = i
          · rw [y2, z_st_eq, zgp_1]
          · rw [z_st_ni y2, zgp_3 y2 y, f2' 45 t (by omega) (by omega)]
            exact s2 t t0 t1
      · refine zPt_rd (zPt_cg P2 (fun a b => (eU a b).symm)) (fun t _ _ => f3 _ t (by omega) (by omega)) (fun t _ _ => f3 _ t (by omega) (by omega))
      · rw [zwt_cg eU]
        have L1 : zLb N (zad (zU N w) i ((j + 1) % N)) (zun (m1 (50 + (D + 1))) i ((j + 1) % N) (m1 (50 + (D + 1)) i)) := zLb_un rg P1.1 ⟨p4, by omega⟩ ⟨m0', m1'⟩ (Or.inl rfl)
        by_cases c1 : zEq (zad (zad (zU N w) i ((j + 1) % N)) (i + 1) j) x (i + 1)
        · rw [zwt_eq c1]
          exact q2
        · rw [zwt_far rg1 L1 ⟨by omega, by omega⟩ ⟨by omega, p5⟩ ⟨x0, x1⟩ c1]
          by_cases c2 : zEq (zad (zU N w) i ((j + 1) % N)) x i
          · rw [zwt_eq c2]
            exact q1
          · rw [zwt_far rg P1.1 ⟨p4, by omega⟩ ⟨m0', m1'⟩ ⟨x0, x1⟩ c2]
            have n1 : x ≠ i := fun z => c2 (by rw [z]; exact zEq_r)
            have n2 : x ≠ j := fun z => c1 (by rw [z]; exact zEq_s (zEq_u (Or.inr ⟨rfl, rfl⟩)))
            rw [zgp_3 n1 n2] at xw
            exact s4 x x0 x1 xw
    · have hA' : ∀ j, 0 ≤ j → j < N → 0 ≤ A j := fun j j0 j1 => (hA j j0 j1).1
      have no : zGl N A f (zgp w i j) (i + 1) (j :: hs) = [] := by
        rcases bad with bad | bad
        · refine zGl_no hA' p1 (k := i) ⟨p4, by omega⟩ ?_
          rw [zwt_cg eU]
          have := zwt_le (N := N) (A := A) (U := zad (zU N w) i ((j + 1) % N)) (V := zad (zad (zU N w) i ((j + 1) % N)) (i + 1) j) (k := i) hA' (fun x q => zEq_ad q)
          omega
        · refine zGl_no hA' p1 (k := i + 1) ⟨by omega, by omega⟩ ?_
          rw [zwt_cg eU]
          exact bad
      rw [no, List.nil_append] at k0 k1
      have f2' : ∀ o x, o ≠ 51 + D → o ≠ 64 + D → m2 o x = m o x := fun o x a b => by rw [f2 o x (by omega) (by omega)]; exact f1 o x a b
      refine ⟨fun _ => ⟨⟨by omega, by omega⟩, ih (j + 2) m2 (by omega) (by omega) (by omega) ⟨by rw [f2' 44 3 (by omega) (by omega)]; exact s1, fun t t0 t1 => by rw [f2' 45 t (by omega) (by omega)]; exact s2 t t0 t1, zPt_rd s3 (fun t _ _ => f2' _ t (by omega) (by omega)) (fun t _ _ => f2' _ t (by omega) (by omega)), s4⟩ (fun z m' fm => k0 z m' (fun o x a b => by rw [fm o x a b]; exact f2' o x a b)) (fun n' j' g1 g2 g3 g4 g5 m' fm e1 e2 => k1 n' j' (by omega) g2 g3 g4 g5 m' (fun o x a b c g => by rw [fm o x a b c g]; exact f2' o x a b) e1 e2)⟩, fun z => absurd rfl z⟩
end NX

/-! GLUINGS: the class makes points one -/
def zPt (N : Int) (A : Int → Int) (U : Int → Int → Prop) (S G : Int → Int) : Prop := zLb N U S ∧ (∀ k, 0 ≤ k → k < N → (0 ≤ S k ∧ S k < N) ∧ S (S k) = S k) ∧ ∀ r, 0 ≤ r → r < N → S r = r → G r = zwt N A U r
section MK
variable {N a b c k x y i j D : Int} {U V : Int → Int → Prop} {A B S G w : Int → Int} {μ : z_Mem} {d : Nat} {K : Int → z_Mem → Prop} {Kn : z_Mem → Prop}
theorem zPt_cg (h : zPt N A U S G) (e : ∀ a b, zEq U a b ↔ zEq V a b) : zPt N A V S G := ⟨zLb_cg h.1 e, h.2.1, fun r r0 r1 r2 => by rw [h.2.2 r r0 r1 r2]; exact zwt_cg e⟩
theorem zwt_r (hA : ∀ j, 0 ≤ j → j < N → 0 ≤ A j ∧ A j ≤ 120) (hn : 0 < N ∧ N ≤ 22) (hL : zLb N U S) (hk : 0 ≤ k ∧ k < N) : 0 ≤ zwt N A U k ∧ zwt N A U k ≤ 3000 := by
  rw [zwt_lb hL hk]
  have := zsm_r (N := N) (S := S) hA (S k) N.toNat (by omega)
  omega
theorem zwt_far (hr : zRg N U) (hL : zLb N U S) (hx : 0 ≤ x ∧ x < N) (hy : 0 ≤ y ∧ y < N) (ha : 0 ≤ a ∧ a < N) (hne : ¬ zEq (zad U x y) a x) : zwt N A (zad U x y) a = zwt N A U a := by
  have L2 := zLb_un hr hL hx hy (t := S x) (Or.inl rfl)
  rw [zwt_lb L2 ha, zwt_lb hL ha]
  have na : ¬ (S a = S x ∨ S a = S y) := fun q => hne ((L2 a x ha.1 ha.2 hx.1 hx.2).mp (by unfold zun; rw [if_pos q, if_pos (Or.inl rfl)]))
  have e1 : zun S x y (S x) a = S a := by unfold zun; rw [if_neg na]
  unfold zsm
  refine zS_eq _ (fun j j0 j1 => ?_)
  rw [e1]
  by_cases q : S j = S x ∨ S j = S y
  · have e2 : zun S x y (S x) j = S x := by unfold zun; rw [if_pos q]
    rw [e2, if_neg (fun z => na (Or.inl z.symm)), if_neg (fun z => na (by rw [← z]; exact q))]
  · have e2 : zun S x y (S x) j = S j := by unfold zun; rw [if_neg q]
    rw [e2]
theorem e_makeOne (hD : 0 ≤ a ∧ a < 12) (hn : 0 < N ∧ N ≤ 22) (hr : zRg N U) (hA : ∀ j, 0 ≤ j → j < N → 0 ≤ A j ∧ A j ≤ 120) (h44 : μ 44 3 = N) (hP : zPt N A U (μ (50 + a)) (μ (63 + a))) (hb : 0 ≤ b ∧ b < N) (hc : 0 ≤ c ∧ c < N) (hk : ∀ m, (∀ o i, o ≠ 50 + a → o ≠ 63 + a → m o i = μ o i) → zPt N A (zad U b c) (m (50 + a)) (m (63 + a)) → K (zi (decide (zwt N A (zad U b c) b ≤ 4))) m) : z_ci m_X1_makeOne [(2, 44), (0, a), (0, b), (0, c)] μ d K := by
  obtain ⟨P1, P2, P3⟩ := hP
  generalize hS : μ (50 + a) = S at P1 P2 P3
  generalize hG : μ (63 + a) = G at P3
  obtain ⟨b1, b2⟩ := P2 b hb.1 hb.2
  obtain ⟨c1, c2⟩ := P2 c hc.1 hc.2
  have wb := zwt_r (k := S b) hA hn P1 b1
  have wc := zwt_r (k := S c) hA hn P1 c1
  have gb : G (S b) = zwt N A U (S b) := P3 _ b1.1 b1.2 b2
  have gc : G (S c) = zwt N A U (S c) := P3 _ c1.1 c1.2 c2
  refine V_X1_makeOne ?_
  rw [hS, hG, gb, gc]
  refine ⟨hD, ⟨by omega, by omega⟩, hD, ⟨by omega, by omega⟩, fun ne => ⟨hD, ⟨by omega, by omega⟩, hD, ⟨by omega, by omega⟩, ⟨by omega, by omega⟩, ⟨by omega, by omega⟩, ?_⟩, fun e => ⟨hD, ⟨by omega, by omega⟩, ?_⟩⟩
  · have L2 := zLb_un hr P1 hb hc (t := S b) (Or.inl rfl)
    have un : ∀ j, zun S b c (S b) j = if S j = S c then S b else S j := fun j => by
      unfold zun
      by_cases q : S j = S c
      · rw [if_pos (Or.inr q), if_pos q]
      · rw [if_neg q]
        by_cases q2 : S j = S b
        · rw [if_pos (Or.inl q2), q2]
        · rw [if_neg (by omega)]
    have sum : ∀ n : Nat, zsm A (zun S b c (S b)) n (S b) = zsm A S n (S b) + zsm A S n (S c) := fun n => by
      unfold zsm
      rw [← zS_add]
      refine zS_eq _ (fun j _ _ => ?_)
      rw [un j]
      by_cases q : S j = S c
      · rw [if_pos q, if_pos rfl, if_pos q, if_neg (by omega)]
        omega
      · rw [if_neg q, if_neg q]
        omega
    have ub : zun S b c (S b) b = S b := by rw [un b, if_neg ne]
    have us : ∀ j, 0 ≤ j → j < N → zun S b c (S b) (S j) = zun S b c (S b) j := fun j j0 j1 => by rw [un, un, (P2 j j0 j1).2]
    have wnew : zwt N A (zad U b c) (S b) = zwt N A U (S b) + zwt N A U (S c) := by
      rw [zwt_lb L2 b1, zwt_lb P1 b1, zwt_lb P1 c1, us b hb.1 hb.2, ub, b2, c2]
      exact sum _
    have wnb : zwt N A (zad U b c) b = zwt N A (zad U b c) (S b) := by rw [zwt_lb L2 hb, zwt_lb L2 b1, us b hb.1 hb.2]
    have oth : ∀ r, 0 ≤ r → r < N → zun S b c (S b) r = r → r ≠ S b → S r = r ∧ zwt N A (zad U b c) r = zwt N A U r := fun r r0 r1 er nb => by
      rw [un r] at er
      by_cases q : S r = S c
      · rw [if_pos q] at er
        exact absurd er.symm nb
      · rw [if_neg q] at er
        refine ⟨er, ?_⟩
        rw [zwt_lb L2 ⟨r0, r1⟩, zwt_lb P1 ⟨r0, r1⟩, un r, if_neg q, er]
        unfold zsm
        refine zS_eq _ (fun j _ _ => ?_)
        rw [un j]
        by_cases q2 : S j = S c
        · rw [if_pos q2, if_neg (fun z => nb z.symm), if_neg (by omega)]
        · rw [if_neg q2]
    have key : ∀ k, 0 ≤ k → k ≤ N → ∀ m : z_Mem, (∀ o i, o ≠ 50 + a → o ≠ 63 + a → m o i = μ o i) → (∀ r, 0 ≤ r → r < N → m (63 + a) r = if r = S b then zwt N A (zad U b c) b else G r) → (∀ j, 0 ≤ j → j < N → m (50 + a) j = if j < k then zun S b c (S b) j else S j) → z_ri m_X1_makeOne 70 [some (2, 44), some (0, a), none, none, some (0, S b), some (0, S c), some (0, k)] m d K := by
      refine z_up (fun k k0 k1 ih m hf h63 h50 => V_X1_makeOne_70 ?_)
      rw [hf 44 3 (by omega) (by omega), h44]
      refine ⟨fun q => ?_, fun q => ?_⟩
      · obtain rfl : k = N := by omega
        have P' : zPt k A (zad U b c) (m (50 + a)) (m (63 + a)) := by
          have ag : ∀ j, 0 ≤ j → j < k → m (50 + a) j = zun S b c (S b) j := fun j j0 j1 => by rw [h50 j j0 j1, if_pos j1]
          have rgu : ∀ j, 0 ≤ j → j < k → 0 ≤ zun S b c (S b) j ∧ zun S b c (S b) j < k := fun j j0 j1 => by
            rw [un j]
            have := (P2 j j0 j1).1
            split <;> omega
          refine ⟨fun u v u0 u1 v0 v1 => by rw [ag u u0 u1, ag v v0 v1]; exact L2 u v u0 u1 v0 v1, fun j j0 j1 => ?_, fun r r0 r1 er => ?_⟩
          · have r := rgu j j0 j1
            rw [ag j j0 j1]
            refine ⟨r, ?_⟩
            rw [ag _ r.1 r.2, un j]
            by_cases q2 : S j = S c
            · rw [if_pos q2, us b hb.1 hb.2, ub]
            · rw [if_neg q2, us j j0 j1, un j, if_neg q2]
          · rw [ag r r0 r1] at er
            rw [h63 r r0 r1]
            by_cases q2 : r = S b
            · rw [if_pos q2, wnb, q2]
            · rw [if_neg q2]
              obtain ⟨o1, o2⟩ := oth r r0 r1 er q2
              rw [o2]
              exact P3 r r0 r1 o1
        have fin := hk m hf P'
        rw [h63 (S b) b1.1 b1.2, if_pos rfl]
        refine ⟨hD, ⟨by omega, by omega⟩, fun z => ?_, fun z => ?_⟩
        · rw [decide_eq_false (by omega)] at fin
          exact fin
        · rw [decide_eq_true z] at fin
          exact fin
      · have e50 : m (50 + a) k = S k := by rw [h50 k k0 q, if_neg (by omega)]
        rw [e50]
        refine ⟨hD, ⟨by omega, by omega⟩, fun z => ⟨⟨by omega, by omega⟩, ih q m hf h63 (fun j j0 j1 => ?_)⟩, fun z => ⟨hD, ⟨by omega, by omega⟩, ⟨by omega, by omega⟩, ih q _ (fun o i x y => by rw [z_st_ne x]; exact hf o i x y) (fun r r0 r1 => by rw [z_st_ne (by omega)]; exact h63 r r0 r1) (fun j j0 j1 => ?_)⟩⟩
        · rw [h50 j j0 j1]
          by_cases w1 : j = k
          · rw [w1, if_neg (by omega), if_pos (by omega), un k, if_neg z]
          · by_cases w2 : j < k
            · rw [if_pos w2, if_pos (by omega)]
            · rw [if_neg w2, if_neg (by omega)]
        · by_cases w1 : j = k
          · rw [w1, z_st_eq, if_pos (by omega), un k, if_pos z]
          · rw [z_st_ni w1, h50 j j0 j1]
            by_cases w2 : j < k
            · rw [if_pos w2, if_pos (by omega)]
            · rw [if_neg w2, if_neg (by omega)]
    refine key 0 (by omega) (by omega) _ (fun o i x y => z_st_ne y) (fun r r0 r1 => ?_) (fun j j0 j1 => ?_)
    · by_cases w1 : r = S b
      · rw [w1, z_st_eq, if_pos rfl, wnb, wnew]
      · rw [z_st_ni w1, if_neg w1, hG]
    · rw [z_st_ne (by omega), hS, if_neg (by omega)]
  · have ee : ∀ u v, zEq U u v ↔ zEq (zad U b c) u v := fun u v => ⟨zEq_ad, zEq_m (fun x y h => by
      rcases h with h | ⟨rfl, rfl⟩
      · exact zEq_u h
      · exact (P1 x y hb.1 hb.2 hc.1 hc.2).mp e)⟩
    have wb2 : zwt N A (zad U b c) b = zwt N A U (S b) := by
      rw [← zwt_cg ee, zwt_lb P1 hb, zwt_lb P1 b1, b2]
    have fin := hk μ (fun _ _ _ _ => rfl) (by rw [hS, hG]; exact zPt_cg ⟨P1, P2, P3⟩ ee)
    rw [wb2] at fin
    refine ⟨fun z => ?_, fun z => ?_⟩
    · rw [decide_eq_false (by omega)] at fin
      exact fin
    · rw [decide_eq_true z] at fin
      exact fin
theorem e_glueTwo (hD : 0 ≤ D ∧ D < 12) (hn : 0 < N ∧ N ≤ 22) (hr : zRg N U) (hA : ∀ j, 0 ≤ j → j < N → 0 ≤ A j ∧ A j ≤ 120) (h44 : μ 44 3 = N) (hP : zPt N A U (μ (50 + D)) (μ (63 + D))) (hi : 0 ≤ i) (hij : i < j) (hj : j < N) (h1 : ∀ m, (∀ o x, o ≠ 50 + D → o ≠ 63 + D → m o x = μ o x) → zPt N A (zad (zad U i ((j + 1) % N)) (i + 1) j) (m (50 + D)) (m (63 + D)) → zwt N A (zad U i ((j + 1) % N)) i ≤ 4 → zwt N A (zad (zad U i ((j + 1) % N)) (i + 1) j) (i + 1) ≤ 4 → K 1 m) (h0 : ∀ m, (∀ o x, o ≠ 50 + D → o ≠ 63 + D → m o x = μ o x) → (4 < zwt N A (zad U i ((j + 1) % N)) i ∨ 4 < zwt N A (zad (zad U i ((j + 1) % N)) (i + 1) j) (i + 1)) → K 0 m) : z_ci m_X1_glueTwo [(2, 44), (0, D), (0, i), (0, j)] μ (d + 1) K := by
  have m0 := Int.emod_nonneg (j + 1) (b := N) (by omega)
  have m1 := Int.emod_lt_of_pos (j + 1) (b := N) hn.1
  have go : z_ci m_X1_makeOne [(2, 44), (0, D), (0, i), (0, (j + 1) % N)] μ d (fun x5 m3 => (x5 = 0 → K 0 m3) ∧ (¬ x5 = 0 → z_I (i + 1) ∧ (z_ci m_X1_makeOne [(2, 44), (0, D), (0, i + 1), (0, j)] m3 d (fun x10 m8 => (x10 = 0 → K 0 m8) ∧ (¬ x10 = 0 → K 1 m8))))) := by
    refine e_makeOne hD hn hr hA h44 hP ⟨hi, by omega⟩ ⟨m0, m1⟩ (fun m2 f2 P2 => ?_)
    by_cases q : zwt N A (zad U i ((j + 1) % N)) i ≤ 4
    · rw [decide_eq_true q]
      refine ⟨fun z => absurd z (by decide), fun _ => ⟨(by first | omega | exact ⟨by omega, by omega⟩), e_makeOne hD hn (zRg_ad hr ⟨hi, by omega⟩ ⟨m0, m1⟩) hA (by rw [f2 44 3 (by omega) (by omega)]; exact h44) P2 ⟨by omega, by omega⟩ ⟨by omega, hj⟩ (fun m3 f3 P3 => ?_)⟩⟩
      have f3' : ∀ o x, o ≠ 50 + D → o ≠ 63 + D → m3 o x = μ o x := fun o x a b => by rw [f3 o x a b]; exact f2 o x a b
      by_cases q2 : zwt N A (zad (zad U i ((j + 1) % N)) (i + 1) j) (i + 1) ≤ 4
      · rw [decide_eq_true q2]
        exact ⟨fun z => absurd z (by decide), fun _ => h1 m3 f3' P3 q q2⟩
      · rw [decide_eq_false q2]
        exact ⟨fun _ => h0 m3 f3' (Or.inr (by omega)), fun z => absurd rfl z⟩
    · rw [decide_eq_false q]
      exact ⟨fun _ => h0 m2 f2 (Or.inl (by omega)), fun z => absurd rfl z⟩
  refine V_X1_glueTwo ?_
  rw [h44]
  refine ⟨⟨by omega, by omega⟩, fun z => ?_, fun z => ⟨⟨by omega, by omega⟩, ?_⟩⟩
  · have e : (j + 1) % N = 0 := by
      rw [show j + 1 = N by omega]
      exact Int.emod_self
    rw [e] at go
    exact go
  · have e : (j + 1) % N = j + 1 := Int.emod_eq_of_lt (by omega) z
    rw [e] at go
    exact go
end MK

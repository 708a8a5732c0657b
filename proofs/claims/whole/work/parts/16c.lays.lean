/-! GLUINGS: the reference lays points -/
def zPf (N : Int) (U : Int → Int → Prop) (B S : Int → Int) : Prop := zLb N U S ∧ ∀ k, 0 ≤ k → k < N → (0 ≤ B k ∧ B k ≤ k) ∧ (B k = k → S k = k) ∧ (B k ≠ k → S k = S (B k)) ∧ (0 ≤ S k ∧ S k ≤ k) ∧ B (S k) = S k
section LP
variable {N a b v : Int} {n : Nat} {U : Int → Int → Prop} {A B S w : Int → Int} {μ : z_Mem} {d : Nat} {K : Int → z_Mem → Prop} {Kn : z_Mem → Prop}
theorem zsm_r (hA : ∀ j, 0 ≤ j → j < N → 0 ≤ A j ∧ A j ≤ 120) (r : Int) : ∀ n : Nat, (n : Int) ≤ N → 0 ≤ zsm A S n r ∧ zsm A S n r ≤ 120 * n
  | 0, _ => ⟨Int.le_refl _, by show (0 : Int) ≤ _; omega⟩
  | n + 1, h => by
    have i := zsm_r hA r n (by omega)
    have := hA n (by omega) (by omega)
    show 0 ≤ zsm A S n r + (if S n = r then A n else 0) ∧ zsm A S n r + (if S n = r then A n else 0) ≤ _
    split <;> omega
theorem zsm_mono (hA : ∀ j, 0 ≤ j → j < N → 0 ≤ A j ∧ A j ≤ 120) (r : Int) {n : Nat} (h : ((n + 1 : Nat) : Int) ≤ N) : zsm A S n r ≤ zsm A S (n + 1) r := by
  have := hA n (by omega) (by omega)
  show zsm A S n r ≤ zsm A S n r + (if S n = r then A n else 0)
  split <;> omega
theorem e12_pointOf (hP : zPf N U (μ 143) S) (hN : μ 113 41 = N) (hn : 0 < N ∧ N ≤ 22) (ha : 0 ≤ a ∧ a ≤ 1000) (h : K (S (a % N)) μ) : z_ci m_X12_pointOf [(2, 113), (0, a)] μ d K := by
  have key : ∀ n : Nat, ∀ v : Int, 0 ≤ v → v < N → v ≤ n → K (S v) μ → z_ri m_X12_pointOf 7 [some (2, 113), none, some (0, v)] μ d K := by
    intro n
    induction n with
    | zero =>
      intro v v0 v1 v2 h
      obtain ⟨p1, p2, p3, p4, p5⟩ := hP.2 v v0 v1
      have : μ 143 v = v := by omega
      rw [p2 this] at h
      exact V_X12_pointOf_7 ⟨(by first | omega | exact ⟨by omega, by omega⟩), fun _ => h, fun q => absurd this q⟩
    | succ n ih =>
      intro v v0 v1 v2 h
      obtain ⟨p1, p2, p3, p4, p5⟩ := hP.2 v v0 v1
      refine V_X12_pointOf_7 ⟨(by first | omega | exact ⟨by omega, by omega⟩), fun q => ?_, fun q => ⟨(by first | omega | exact ⟨by omega, by omega⟩), ?_⟩⟩
      · rw [p2 q] at h
        exact h
      · rw [p3 q] at h
        exact ih _ p1.1 (by omega) (by omega) h
  have m0 := Int.emod_nonneg a (b := N) (by omega)
  have m1 := Int.emod_lt_of_pos a (b := N) hn.1
  refine V_X12_pointOf ?_
  rw [hN]
  refine ⟨(by first | omega | exact ⟨by omega, by omega⟩), (by first | omega | exact ⟨by omega, by omega⟩), key N.toNat _ m0 m1 (by omega) h⟩
theorem e12_makesOne (hr : zRg N U) (hP : zPf N U (μ 143) S) (hN : μ 113 41 = N) (hn : 0 < N ∧ N ≤ 22) (ha : 0 ≤ a ∧ a < N) (hb : 0 ≤ b ∧ b ≤ N) (hk : ∀ m, (∀ o i, o ≠ 143 → m o i = μ o i) → zPf N (zad U a (b % N)) (m 143) (zun S a (b % N) (min (S a) (S (b % N)))) → Kn m) : z_cn m_X12_makesOne [(2, 113), (0, a), (0, b)] μ (d + 1) Kn := by
  have m0 := Int.emod_nonneg b (b := N) (by omega)
  have m1 := Int.emod_lt_of_pos b (b := N) hn.1
  have ea : a % N = a := Int.emod_eq_of_lt ha.1 ha.2
  obtain ⟨x1, x2, x3, x4, x5⟩ := hP.2 a ha.1 ha.2
  obtain ⟨y1, y2, y3, y4, y5⟩ := hP.2 _ m0 m1
  have ha' : 0 ≤ a ∧ a ≤ 1000 := by omega
  have hb' : 0 ≤ b ∧ b ≤ 1000 := by omega
  refine V_X12_makesOne (e12_pointOf hP hN hn ha' (e12_pointOf hP hN hn hb' (e12_pointOf hP hN hn ha' (e12_pointOf hP hN hn hb' ?_))))
  rw [ea]
  generalize b % N = c at *
  refine ⟨⟨by omega, by omega⟩, hk _ (fun o i q => z_st_ne q) ⟨zLb_un hr hP.1 ha ⟨m0, m1⟩ (by omega), fun k k0 k1 => ?_⟩⟩
  obtain ⟨p1, p2, p3, p4, p5⟩ := hP.2 k k0 k1
  have rd : ∀ j, z_st μ 143 (max (S a) (S c)) (min (S a) (S c)) 143 j = if j = max (S a) (S c) then min (S a) (S c) else μ 143 j := fun j => by
    by_cases q : j = max (S a) (S c)
    · rw [if_pos q, q, z_st_eq]
    · rw [if_neg q, z_st_ni q]
  have sk : ∀ j, zun S a c (min (S a) (S c)) j = if S j = S a ∨ S j = S c then min (S a) (S c) else S j := fun _ => rfl
  have sr : ∀ j, 0 ≤ j → j < N → S (S j) = S j := fun j j0 j1 => by
    obtain ⟨r1, r2, r3, r4, r5⟩ := hP.2 j j0 j1
    exact (hP.2 (S j) r4.1 (by omega)).2.1 r5
  have sa := sr a ha.1 ha.2
  have sc := sr c m0 m1
  have smin : S (min (S a) (S c)) = min (S a) (S c) := by
    rcases (by omega : min (S a) (S c) = S a ∨ min (S a) (S c) = S c) with q | q <;> rw [q] <;> assumption
  have smax : S (max (S a) (S c)) = max (S a) (S c) := by
    rcases (by omega : max (S a) (S c) = S a ∨ max (S a) (S c) = S c) with q | q <;> rw [q] <;> assumption
  have bmin : μ 143 (min (S a) (S c)) = min (S a) (S c) := by
    rcases (by omega : min (S a) (S c) = S a ∨ min (S a) (S c) = S c) with q | q <;> rw [q] <;> assumption
  rw [rd k, sk k]
  refine ⟨?_, fun q => ?_, fun q => ?_, ?_, ?_⟩
  · split <;> omega
  · by_cases w : k = max (S a) (S c)
    · rw [if_pos w] at q
      rw [q, w] at *
      rw [if_pos (by omega)]
    · rw [if_neg w] at q
      have e := p2 q
      by_cases w2 : S k = S a ∨ S k = S c
      · rw [if_pos w2]
        omega
      · rw [if_neg w2]
        exact e
  · by_cases w : k = max (S a) (S c)
    · rw [if_pos w] at q ⊢
      rw [w, smax, if_pos (by omega), sk, smin, if_pos (by omega)]
    · rw [if_neg w] at q ⊢
      rw [sk, p3 q]
  · split <;> omega
  · by_cases w2 : S k = S a ∨ S k = S c
    · rw [if_pos w2, rd]
      split
      · rfl
      · exact bmin
    · rw [if_neg w2, rd, if_neg (by omega)]
      exact p5
theorem e12_laysPoints (hN : μ 113 41 = N) (hn : 0 < N ∧ N ≤ 22) (hw : ∀ t, 0 ≤ t → t < N → μ 142 t = w t ∧ 0 ≤ w t ∧ w t < N) (hA : ∀ t, 0 ≤ t → t < N → μ 141 t = A t ∧ 0 ≤ A t ∧ A t ≤ 120) (hk : ∀ m S, (∀ o i, o ≠ 143 → o ≠ 144 → m o i = μ o i) → zPf N (zU N w) (m 143) S → (∀ r, 0 ≤ r → r < N → m 144 r = zsm A S N.toNat r) → K (zi (zpd (zVa N A w))) m) : z_ci m_X12_laysPoints [(2, 113)] μ (d + 2) K := by
  have hA' : ∀ t, 0 ≤ t → t < N → 0 ≤ A t ∧ A t ≤ 120 := fun t t0 t1 => (hA t t0 t1).2
  have three : ∀ (S : Int → Int) (m0 : z_Mem), (∀ o i, o ≠ 143 → o ≠ 144 → m0 o i = μ o i) → zPf N (zU N w) (m0 143) S → ∀ (j i : Nat) (m : z_Mem), (i : Int) + j = N → (∀ o x, o ≠ 144 → m o x = m0 o x) → (∀ r, 0 ≤ r → r < N → m 144 r = zsm A S i r) → ∀ fl : Int, fl = zi (zpd (∀ k : Int, 0 ≤ k → k < i → zsm A S i (S k) ≤ 4)) → z_ri m_X12_laysPoints 63 [some (2, 113), some (0, fl), some (0, i)] m (d + 2) K := by
    intro S m0 f0 hP j
    induction j with
    | zero =>
      intro i m hi hf h144 fl hfl
      have fr := zi_r (zpd (∀ k : Int, 0 ≤ k → k < i → zsm A S i (S k) ≤ 4))
      refine V_X12_laysPoints_63 ?_
      rw [hf 113 41 (by decide), f0 113 41 (by decide) (by decide), hN]
      refine ⟨fun _ => ⟨(by first | omega | exact ⟨by omega, by omega⟩), ?_⟩, fun q => by omega⟩
      have en : N.toNat = i := by omega
      have := hk m S (fun o x a b => by rw [hf o x b]; exact f0 o x a b) (by rw [show m 143 = m0 143 from funext fun x => hf 143 x (by decide)]; exact hP) (fun r r0 r1 => by rw [en]; exact h144 r r0 r1)
      rw [hfl]
      have ee : (∀ k : Int, 0 ≤ k → k < i → zsm A S i (S k) ≤ 4) = zVa N A w := by
        refine propext ⟨fun q k k0 k1 => ?_, fun q k k0 k1 => ?_⟩
        · rw [zwt_lb hP.1 ⟨k0, k1⟩, en]
          exact q k k0 (by omega)
        · have := q k k0 (by omega)
          rw [zwt_lb hP.1 ⟨k0, by omega⟩, en] at this
          exact this
      rw [ee]
      exact this
    | succ j ih =>
      intro i m hi hf h144 fl hfl
      have fr := zi_r (zpd (∀ k : Int, 0 ≤ k → k < i → zsm A S i (S k) ≤ 4))
      have fr' : fl = 0 ∨ fl = 1 := by omega
      have P1 : zPf N (zU N w) (m 143) S := by rw [show m 143 = m0 143 from funext fun x => hf 143 x (by decide)]; exact hP
      have e41 : m 113 41 = N := by rw [hf 113 41 (by decide), f0 113 41 (by decide) (by decide), hN]
      have im : (i : Int) % N = i := Int.emod_eq_of_lt (by omega) (by omega)
      obtain ⟨p1, p2, p3, p4, p5⟩ := hP.2 i (by omega) (by omega)
      have sb := zsm_r (N := N) (A := A) (S := S) hA' (S i) i (by omega)
      have sb1 := zsm_r (N := N) (A := A) (S := S) hA' (S i) (i + 1) (by omega)
      have Ai := hA i (by omega) (by omega)
      have e141 : m 141 i = A i := by rw [hf 141 i (by decide), f0 141 i (by decide) (by decide)]; exact Ai.1
      have e144 : m 144 (S i) = zsm A S i (S i) := h144 _ p4.1 (by omega)
      have es : zsm A S (i + 1) (S i) = zsm A S i (S i) + A i := by
        show zsm A S i (S i) + (if S i = S i then A i else 0) = _
        rw [if_pos rfl]
      refine V_X12_laysPoints_63 ?_
      rw [e41]
      refine ⟨fun q => by omega, fun q => e12_pointOf P1 e41 hn (by omega) ?_⟩
      rw [im, e144, e141, ← es]
      generalize hm1 : z_st m 144 (S i) (zsm A S (i + 1) (S i)) = m1
      have f1 : ∀ o x, o ≠ 144 → m1 o x = m o x := fun o x a => by rw [← hm1, z_st_ne a]
      have h1 : ∀ r, 0 ≤ r → r < N → m1 144 r = zsm A S (i + 1) r := fun r r0 r1 => by
        by_cases x : r = S i
        · rw [x, ← hm1, z_st_eq]
        · rw [← hm1, z_st_ni x, h144 r r0 r1]
          show _ = zsm A S i r + (if S i = r then A i else 0)
          rw [if_neg (fun y => x y.symm)]
          omega
      have nx : ∀ fl' : Int, fl' = zi (zpd (∀ k : Int, 0 ≤ k → k < ((i + 1 : Nat) : Int) → zsm A S (i + 1) (S k) ≤ 4)) → z_ri m_X12_laysPoints 63 [some (2, 113), some (0, fl'), some (0, (i : Int) + 1)] m1 (d + 2) K := fun fl' h' => ih (i + 1) m1 (by omega) (fun o x a => by rw [f1 o x a]; exact hf o x a) h1 fl' h'
      have split' : (∀ k : Int, 0 ≤ k → k < ((i + 1 : Nat) : Int) → zsm A S (i + 1) (S k) ≤ 4) ↔ ((∀ k : Int, 0 ≤ k → k < i → zsm A S i (S k) ≤ 4) ∧ zsm A S (i + 1) (S i) ≤ 4) := by
        refine ⟨fun x => ⟨fun k k0 k1 => ?_, x i (by omega) (by omega)⟩, fun x k k0 k1 => ?_⟩
        · have := x k k0 (by omega)
          have := zsm_mono (S := S) hA' (S k) (n := i) (by omega)
          omega
        · by_cases y : S k = S i
          · rw [y]
            exact x.2
          · have := x.1 k k0 (by
              refine Classical.byContradiction fun z => y ?_
              rw [show k = i by omega])
            show zsm A S i (S k) + (if S i = S k then A i else 0) ≤ 4
            rw [if_neg (fun z => y z.symm)]
            omega
      refine ⟨(by first | omega | exact ⟨by omega, by omega⟩), (by first | omega | exact ⟨by omega, by omega⟩), (by first | omega | exact ⟨by omega, by omega⟩), (by first | omega | exact ⟨by omega, by omega⟩), fun q1 => ⟨(by first | omega | exact ⟨by omega, by omega⟩), nx 0 ?_⟩, fun q1 => e12_pointOf (by rw [show m1 143 = m 143 from funext fun x => f1 143 x (by decide)]; exact P1) (by rw [f1 113 41 (by decide)]; exact e41) hn (by omega) ?_⟩
      · rw [zpd_f]
        · rfl
        · intro x
          rw [zpd_t (split'.mp x).1] at hfl
          have : fl = 1 := hfl
          omega
      · rw [im, h1 _ p4.1 (by omega)]
        have ok : ∀ k : Int, 0 ≤ k → k < i → zsm A S i (S k) ≤ 4 := by
          refine Classical.byContradiction fun x => q1 ?_
          rw [hfl, zpd_f x]
          rfl
        refine ⟨(by first | omega | exact ⟨by omega, by omega⟩), fun q2 => ⟨(by first | omega | exact ⟨by omega, by omega⟩), nx 0 ?_⟩, fun q2 => ⟨(by first | omega | exact ⟨by omega, by omega⟩), nx 1 ?_⟩⟩
        · rw [zpd_f]
          · rfl
          · intro x
            have := (split'.mp x).2
            omega
        · rw [zpd_t (split'.mpr ⟨ok, q2⟩)]
          rfl
  have two : ∀ (j i : Nat) (m : z_Mem) (S : Int → Int), (i : Int) + j = N → (∀ o x, o ≠ 143 → o ≠ 144 → m o x = μ o x) → (∀ r, 0 ≤ r → r < N → m 144 r = 0) → zPf N (fun x y => zU N w x y ∧ x < i) (m 143) S → z_ri m_X12_laysPoints 32 [some (2, 113), some (0, i), none] m (d + 2) K := by
    intro j
    induction j with
    | zero =>
      intro i m S hi hf h144 hP
      refine V_X12_laysPoints_32 ?_
      rw [hf 113 41 (by decide) (by decide), hN]
      refine ⟨fun _ => ?_, fun q => by omega⟩
      have P2 : zPf N (zU N w) (m 143) S := ⟨zLb_cg hP.1 (fun a b => ⟨zEq_m (fun x y q => zEq_u q.1), zEq_m (fun x y q => zEq_u ⟨q, by have := q.1.2; omega⟩)⟩), hP.2⟩
      refine three S m hf P2 N.toNat 0 m (by omega) (fun _ _ _ => rfl) h144 1 ?_
      rw [zpd_t (fun k k0 k1 => by omega)]
      rfl
    | succ j ih =>
      intro i m S hi hf h144 hP
      refine V_X12_laysPoints_32 ?_
      rw [hf 113 41 (by decide) (by decide), hN]
      refine ⟨fun q => by omega, fun q => ?_⟩
      obtain ⟨w1, w2, w3⟩ := hw i (by omega) q
      rw [hf 142 i (by decide) (by decide), w1]
      refine ⟨(by first | omega | exact ⟨by omega, by omega⟩), (by first | omega | exact ⟨by omega, by omega⟩), e12_makesOne (U := fun x y => zU N w x y ∧ x < i) (fun x y u => zU_rg hn.1 x y u.1) hP (by rw [hf 113 41 (by decide) (by decide), hN]) hn (by omega) (by omega) (fun m2 f2 P2 => ⟨(by first | omega | exact ⟨by omega, by omega⟩), ?_⟩)⟩
      refine ih (i + 1) m2 _ (by omega) (fun o x a b => by rw [f2 o x a]; exact hf o x a b) (fun r r0 r1 => by rw [f2 144 r (by decide)]; exact h144 r r0 r1) ⟨zLb_cg P2.1 (fun a b => ⟨zEq_m (fun x y u => ?_), zEq_m (fun x y u => ?_)⟩), P2.2⟩
      · rcases u with u | ⟨rfl, rfl⟩
        · exact zEq_u ⟨u.1, by have := u.2; omega⟩
        · exact zEq_u ⟨⟨⟨by omega, q⟩, w2, rfl⟩, by omega⟩
      · by_cases z : x = i
        · subst z
          exact zEq_u (Or.inr ⟨rfl, u.1.2.2⟩)
        · exact zEq_u (Or.inl ⟨u.1, by have := u.2; omega⟩)
  have one : ∀ k, 0 ≤ k → k ≤ N → ∀ m : z_Mem, (∀ o x, o ≠ 143 → o ≠ 144 → m o x = μ o x) → (∀ r, 0 ≤ r → r < k → m 143 r = r ∧ m 144 r = 0) → z_ri m_X12_laysPoints 2 [some (2, 113), some (0, k), none] m (d + 2) K := by
    refine z_up (fun k k0 k1 ih m hf hm => V_X12_laysPoints_2 ?_)
    rw [hf 113 41 (by decide) (by decide), hN]
    refine ⟨fun q => ?_, fun q => ⟨(by first | omega | exact ⟨by omega, by omega⟩), (by first | omega | exact ⟨by omega, by omega⟩), (by first | omega | exact ⟨by omega, by omega⟩), ih q _ (fun o x a b => by rw [z_st_ne b, z_st_ne a]; exact hf o x a b) (fun r r0 r1 => ?_)⟩⟩
    · obtain rfl : k = N := by omega
      refine two k.toNat 0 m (fun k => k) (by omega) hf (fun r r0 r1 => (hm r r0 r1).2) ⟨zLb_cg zLb_0 (fun a b => ⟨zEq_m (fun x y u => absurd u (fun z => z)), zEq_m (fun x y u => ?_)⟩), fun r r0 r1 => ?_⟩
      · have := u.2
        have := u.1.1
        omega
      · obtain ⟨m1, m2⟩ := hm r r0 r1
        refine ⟨by omega, fun _ => rfl, fun z => absurd m1 z, ⟨r0, Int.le_refl _⟩, m1⟩
    · by_cases z : r = k
      · rw [z, z_st_ne (by decide), z_st_eq, z_st_eq]
        exact ⟨rfl, rfl⟩
      · rw [z_st_ne (by decide), z_st_ni z, z_st_ni z, z_st_ne (by decide)]
        exact hm r r0 (by omega)
  exact V_X12_laysPoints (one 0 (by omega) (by omega) μ (fun _ _ _ _ => rfl) (fun r r0 r1 => by omega))
end LP

/-! THE RIM: the way round all sides of a net is one -/
def zit (f : Int → Int) (a : Int) : Nat → Int
  | 0 => a
  | n + 1 => f (zit f a n)
def zgo (ac ed : Int → Int) (H : Int → Bool) (k : Int) : Int := if H (ed k) = true then znx (ac k) else znx k
def zgb (ac ed : Int → Int) (H : Int → Bool) (k : Int) : Int := if H (ed (zpv k)) = true then ac (zpv k) else zpv k
def zFw (f : Int → Int) (a b : Int) : Prop := ∀ P : Int → Prop, P a → (∀ c, P c → P (f c)) → P b
section RM
variable {F r a b k : Int} {ac ed es : Int → Int} {H : Int → Bool} {L : List Int}
theorem zgo_pm (sk : zSK F ac ed es) : zPm (zgo ac ed H) (zgb ac ed H) (4 * F) := by
  intro c c0 c1
  obtain ⟨s1, s2, s3, s4, s5, s6⟩ := sk.2.1 c c0 c1
  have pv := (znx_r (c := c) (F := F) ⟨c0, c1⟩).2
  obtain ⟨t1, t2, t3, t4, t5, t6⟩ := sk.2.1 (zpv c) pv.1 pv.2
  have n1 := (znx_r (c := ac c) (F := F) s1).1
  have n2 := (znx_r (c := c) (F := F) ⟨c0, c1⟩).1
  refine ⟨?_, ?_, ?_, ?_⟩
  · unfold zgo
    split
    · exact n1
    · exact n2
  · unfold zgb
    split
    · exact t1
    · exact pv
  · unfold zgo
    by_cases q : H (ed c) = true
    · rw [if_pos q]
      unfold zgb
      rw [znx_pv.1, s5, if_pos q, s2]
    · rw [if_neg q]
      unfold zgb
      rw [znx_pv.1, if_neg q]
  · unfold zgb
    by_cases q : H (ed (zpv c)) = true
    · rw [if_pos q]
      unfold zgo
      rw [t5, if_pos q, t2, znx_pv.2.1]
    · rw [if_neg q]
      unfold zgo
      rw [if_neg q, znx_pv.2.1]
theorem zTr_all : ∀ {L : List Int}, zTr F ac ed H r L → zTr F ac ed zAll r L
  | [], _ => trivial
  | k :: L, h => ⟨⟨h.1.1, rfl, h.1.2.2.1, h.1.2.2.2⟩, zTr_all h.2⟩
theorem zHl_H : ∀ {L : List Int}, zTr F ac ed H r L → ∀ e, zHl ed L e = true → H e = true
  | [], _, e, h => by cases h
  | k :: L, ht, e, h => by
    by_cases q : e = ed k
    · rw [q]
      exact ht.1.2.1
    · have h' : zon (zHl ed L) (ed k) e = true := h
      rw [zon_ne q] at h'
      exact zHl_H ht.2 e h'
theorem zTr_JL : ∀ {L : List Int} {f : Int}, zTr F ac ed H r L → zin ac r L f = true → zJ F ac ed (zHl ed L) r f
  | [], f, _, h => by
    rw [of_decide_eq_true h]
    exact zJ_r
  | k :: L, f, ht, h => by
    have h' : (decide (f = ac k / 4) || zin ac r L f) = true := h
    rw [Bool.or_eq_true] at h'
    have mo : ∀ {x}, zJ F ac ed (zHl ed L) r x → zJ F ac ed (zHl ed (k :: L)) r x := fun w => zJ_mono (fun x hx => zon_m hx) w
    rcases h' with q | q
    · rw [of_decide_eq_true q]
      exact zJ_st ht.1.1 (by show zon (zHl ed L) (ed k) (ed k) = true; exact zon_e) (mo (zTr_JL ht.2 ht.1.2.2.1))
    · exact mo (zTr_JL ht.2 q)
/-- in a net each HINGE is one of the tree -/
theorem zHl_all (sk : zSK F ac ed es) (hf : zFo F ac ed H) (hr : 0 ≤ r ∧ r < F) (hw : ∀ f, 0 ≤ f → f < F → zJ F ac ed H r f) : ∀ k, 0 ≤ k → k < 4 * F → zHl ed (zBF ac ed H r) (ed k) = H (ed k) := by
  intro k k0 k1
  have ht := zBF_tr (H := H) sk hr
  obtain ⟨s1, s2, s3, s4, s5, s6⟩ := sk.2.1 k k0 k1
  cases hz : zHl ed (zBF ac ed H r) (ed k) with
  | true => exact (zHl_H ht _ hz).symm
  | false =>
    cases hh : H (ed k) with
    | false => rfl
    | true =>
      exfalso
      refine hf k k0 k1 hh ?_
      have mo : ∀ {x y}, zJ F ac ed (zHl ed (zBF ac ed H r)) x y → zJ F ac ed (zof H (ed k)) x y := fun w => zJ_mono (fun x hx => by
        have ne : x ≠ ed k := fun e => by rw [e, hz] at hx; cases hx
        rw [zof_ne ne]
        exact zHl_H ht x hx) w
      have j1 := zTr_JL ht ((zBF_J sk hr).mpr (hw (k / 4) (by omega) (by omega)))
      have j2 := zTr_JL ht ((zBF_J sk hr).mpr (hw (ac k / 4) (by omega) (by omega)))
      exact zJ_tr (zJ_sy sk (mo j1)) (mo j2)
theorem znx4 {q : Int} : znx (znx (znx (znx q))) = q ∧ znx q / 4 = q / 4 ∧ znx q ≠ q ∧ znx (znx q) ≠ q ∧ znx (znx (znx q)) ≠ q := by
  unfold znx
  omega
/-- along a tree of HINGES one comes round to all sides -/
theorem zround (sk : zSK F ac ed es) (hr : 0 ≤ r ∧ r < F) : ∀ {L : List Int}, zTr F ac ed zAll r L → ∀ k, zin ac r L (k / 4) = true → zFw (zgo ac ed (zHl ed L)) (4 * r) k := by
  intro L
  induction L with
  | nil =>
    intro _ k hk
    have e : k / 4 = r := of_decide_eq_true hk
    intro P h0 hs
    have st : ∀ c, P c → P (znx c) := fun c hc => by
      have := hs c hc
      exact this
    have h1 := st _ h0
    have h2 := st _ h1
    have h3 := st _ h2
    have e1 : znx (4 * r) = 4 * r + 1 := by unfold znx; omega
    have e2 : znx (4 * r + 1) = 4 * r + 2 := by unfold znx; omega
    have e3 : znx (4 * r + 2) = 4 * r + 3 := by unfold znx; omega
    rw [e1] at h1 h2 h3
    rw [e2] at h2 h3
    rw [e3] at h3
    rcases (by omega : k = 4 * r ∨ k = 4 * r + 1 ∨ k = 4 * r + 2 ∨ k = 4 * r + 3) with q | q | q | q <;> rw [q] <;> assumption
  | cons k0 L ih =>
    rintro ⟨⟨h1, h2, h3, h4⟩, ht⟩ k hk
    obtain ⟨s1, s2, s3, s4, s5, s6⟩ := sk.2.1 k0 h1.1 h1.2
    have nh : ∀ j, 0 ≤ j → j < 4 * F → j / 4 = ac k0 / 4 → zHl ed L (ed j) = false := fun j j0 j1 je => by
      cases hz : zHl ed L (ed j) with
      | false => rfl
      | true =>
        have := (zHl_in sk ht j j0 j1 hz).1
        rw [je, h4] at this
        cases this
    have nk : zHl ed L (ed k0) = false := by
      have := nh (ac k0) s1.1 s1.2 rfl
      rw [s5] at this
      exact this
    have ek : ed (ac k0) = ed k0 := s5
    have gk : zgo ac ed (zHl ed (k0 :: L)) k0 = znx (ac k0) := by
      unfold zgo
      rw [if_pos (by show zon (zHl ed L) (ed k0) (ed k0) = true; exact zon_e)]
    have gq : zgo ac ed (zHl ed (k0 :: L)) (ac k0) = znx k0 := by
      unfold zgo
      rw [ek, if_pos (by show zon (zHl ed L) (ed k0) (ed k0) = true; exact zon_e), s2]
    have go : ∀ j, 0 ≤ j → j < 4 * F → j ≠ k0 → j ≠ ac k0 → zgo ac ed (zHl ed (k0 :: L)) j = zgo ac ed (zHl ed L) j := fun j j0 j1 n1 n2 => by
      have ne : ed j ≠ ed k0 := fun w => by
        rcases zsame sk ⟨j0, j1⟩ h1 w with x | x
        · exact n1 x
        · exact n2 x
      unfold zgo
      have : zHl ed (k0 :: L) (ed j) = zHl ed L (ed j) := zon_ne ne
      rw [this]
    have gk' : zgo ac ed (zHl ed L) k0 = znx k0 := by
      unfold zgo
      rw [if_neg (by rw [nk]; decide)]
    have gn : ∀ j, 0 ≤ j → j < 4 * F → j / 4 = ac k0 / 4 → zgo ac ed (zHl ed L) j = znx j := fun j j0 j1 je => by
      unfold zgo
      rw [if_neg (by rw [nh j j0 j1 je]; decide)]
    obtain ⟨n4, nd, n1', n2', n3'⟩ := @znx4 (ac k0)
    have r1 := (znx_r (F := F) s1).1
    have r2 := (znx_r (F := F) r1).1
    have r3 := (znx_r (F := F) r2).1
    have d2 := (@znx4 (znx (ac k0))).2.1
    have d3 := (@znx4 (znx (znx (ac k0)))).2.1
    have kf : k0 / 4 ≠ ac k0 / 4 := fun w => s3 w.symm
    have m1 : znx (ac k0) ≠ k0 := fun w => kf (by have := nd; rw [w] at this; exact this)
    have m2 : znx (znx (ac k0)) ≠ k0 := fun w => kf (by have := d2; rw [w, nd] at this; exact this)
    have m3 : znx (znx (znx (ac k0))) ≠ k0 := fun w => kf (by have := d3; rw [w, d2, nd] at this; exact this)
    have old : ∀ j, zin ac r L (j / 4) = true → zFw (zgo ac ed (zHl ed (k0 :: L))) (4 * r) j := fun j hj => by
      intro P p0 ps
      have base : zin ac r L (4 * r / 4) = true := by rw [show 4 * r / 4 = r by omega]; exact zin_r
      have := ih ht j hj (fun c => (0 ≤ c ∧ c < 4 * F) ∧ zin ac r L (c / 4) = true ∧ P c) ⟨by omega, base, p0⟩ (fun c hc => by
        obtain ⟨⟨c0, c1⟩, c2, c3⟩ := hc
        have pm := (zgo_pm (H := zHl ed L) sk c c0 c1).1
        refine ⟨pm, ?_, ?_⟩
        · unfold zgo
          split
          · rename_i w
            rw [znx4.2.1]
            exact (zHl_in sk ht c c0 c1 w).2
          · rw [znx4.2.1]
            exact c2
        · by_cases x : c = k0
          · subst x
            rw [gk']
            have p1 := ps _ c3
            rw [gk] at p1
            have p2 := ps _ p1
            rw [go _ r1.1 r1.2 m1 n1', gn _ r1.1 r1.2 nd] at p2
            have p3 := ps _ p2
            rw [go _ r2.1 r2.2 m2 n2', gn _ r2.1 r2.2 (by rw [d2, nd])] at p3
            have p4 := ps _ p3
            rw [go _ r3.1 r3.2 m3 n3', gn _ r3.1 r3.2 (by rw [d3, d2, nd]), n4] at p4
            have p5 := ps _ p4
            rw [gq] at p5
            exact p5
          · have y : c ≠ ac k0 := fun w => by rw [w, h4] at c2; cases c2
            have := ps _ c3
            rw [go c c0 c1 x y] at this
            exact this)
      exact this.2.2
    by_cases w : k / 4 = ac k0 / 4
    · intro P p0 ps
      have pk := old k0 h3 P p0 ps
      have p1 := ps _ pk
      rw [gk] at p1
      have p2 := ps _ p1
      rw [go _ r1.1 r1.2 m1 n1', gn _ r1.1 r1.2 nd] at p2
      have p3 := ps _ p2
      rw [go _ r2.1 r2.2 m2 n2', gn _ r2.1 r2.2 (by rw [d2, nd])] at p3
      have p4 := ps _ p3
      rw [go _ r3.1 r3.2 m3 n3', gn _ r3.1 r3.2 (by rw [d3, d2, nd]), n4] at p4
      have cs : k = ac k0 ∨ k = znx (ac k0) ∨ k = znx (znx (ac k0)) ∨ k = znx (znx (znx (ac k0))) := by
        unfold znx
        omega
      rcases cs with x | x | x | x <;> rw [x] <;> assumption
    · have hk' : (decide (k / 4 = ac k0 / 4) || zin ac r L (k / 4)) = true := hk
      rw [decide_eq_false w] at hk'
      exact old k hk'
/-! one orbit: its length is that of all -/
theorem zit_add {f : Int → Int} {a : Int} (n : Nat) : ∀ m : Nat, zit f a (n + m) = zit f (zit f a n) m := by
  intro m
  induction m with
  | zero => rfl
  | succ m ih =>
    show f (zit f a (n + m)) = f (zit f (zit f a n) m)
    rw [ih]
theorem zit_in {f q : Int → Int} {N a : Int} (hp : zPm f q N) (ha : 0 ≤ a ∧ a < N) (n : Nat) : 0 ≤ zit f a n ∧ zit f a n < N := by
  induction n with
  | zero => exact ha
  | succ n ih => exact (hp _ ih.1 ih.2).1
theorem zit_back {f q : Int → Int} {N a : Int} (hp : zPm f q N) (ha : 0 ≤ a ∧ a < N) : ∀ (i d : Nat), zit f a i = zit f a (i + d) → zit f a d = a := by
  intro i
  induction i with
  | zero =>
    intro d h
    rw [Nat.zero_add] at h
    exact h.symm
  | succ i ih =>
    intro d h
    refine ih d ?_
    rw [show i + 1 + d = i + d + 1 by omega] at h
    have h1 := (hp _ (zit_in hp ha i).1 (zit_in hp ha i).2).2.2.1
    have h2 := (hp _ (zit_in hp ha (i + d)).1 (zit_in hp ha (i + d)).2).2.2.1
    have h' : f (zit f a i) = f (zit f a (i + d)) := h
    rw [← h1, h', h2]
theorem zleast {P : Nat → Prop} : ∀ n : Nat, P n → ∃ m, m ≤ n ∧ P m ∧ ∀ j, j < m → ¬ P j := by
  intro n
  induction n using Nat.strongRecOn with
  | _ n ih =>
    intro hn
    by_cases q : ∃ j, j < n ∧ P j
    · obtain ⟨j, j1, j2⟩ := q
      obtain ⟨m, m1, m2, m3⟩ := ih j j1 j2
      exact ⟨m, by omega, m2, m3⟩
    · exact ⟨n, Nat.le_refl _, hn, fun j hj hp => q ⟨j, hj, hp⟩⟩
theorem zNtrue (n : Nat) : zN n (fun _ => true) = n := by
  induction n with
  | zero => rfl
  | succ n ih =>
    rw [zN_s, ih]
    have : zi true = 1 := rfl
    omega
/-- if all are of one orbit, one comes round after all -/
theorem zorbit {f q : Int → Int} {N a : Int} (hp : zPm f q N) (ha : 0 ≤ a ∧ a < N) (hall : ∀ k, 0 ≤ k → k < N → zOr f q N a k) : zit f a N.toNat = a ∧ (∀ i j : Nat, (i : Int) < N → (j : Int) < N → zit f a i = zit f a j → i = j) ∧ ∀ k, 0 ≤ k → k < N → ∃ i : Nat, (i : Int) < N ∧ zit f a i = k := by
  have ex : ∃ m : Nat, 0 < m ∧ (m : Int) ≤ N ∧ zit f a m = a := by
    refine Classical.byContradiction fun hno => ?_
    have inj : ∀ i j : Int, 0 ≤ i → i < ((N.toNat + 1 : Nat) : Int) → 0 ≤ j → j < ((N.toNat + 1 : Nat) : Int) → zit f a i.toNat = zit f a j.toNat → i = j := by
      intro i j i0 i1 j0 j1 e
      rcases (by omega : i < j ∨ i = j ∨ j < i) with w | w | w
      · exact absurd ⟨(j - i).toNat, by omega, by omega, zit_back hp ha i.toNat (j - i).toNat (by rw [show i.toNat + (j - i).toNat = j.toNat by omega]; exact e)⟩ hno
      · exact w
      · exact absurd ⟨(i - j).toNat, by omega, by omega, zit_back hp ha j.toNat (i - j).toNat (by rw [show j.toNat + (i - j).toNat = i.toNat by omega]; exact e.symm)⟩ hno
    have := zN_inj (P := fun _ => true) (N.toNat + 1) N.toNat (g := fun i => zit f a i.toNat) (fun i _ _ => by have := zit_in hp ha i.toNat; omega) inj
    rw [zNtrue, zNtrue] at this
    omega
  obtain ⟨m0, h1, h2, h3⟩ := ex
  obtain ⟨m, m1, ⟨m2, m3⟩, m4⟩ := zleast (P := fun m => 0 < m ∧ zit f a m = a) m0 ⟨h1, h3⟩
  have inj : ∀ i j : Nat, i < m → j < m → zit f a i = zit f a j → i = j := by
    intro i j hi hj e
    rcases (by omega : i < j ∨ i = j ∨ j < i) with w | w | w
    · exact absurd ⟨by omega, zit_back hp ha i (j - i) (by rw [show i + (j - i) = j by omega]; exact e)⟩ (m4 (j - i) (by omega))
    · exact w
    · exact absurd ⟨by omega, zit_back hp ha j (i - j) (by rw [show j + (i - j) = i by omega]; exact e.symm)⟩ (m4 (i - j) (by omega))
  have sur : ∀ k, 0 ≤ k → k < N → ∃ i : Nat, i < m ∧ zit f a i = k := by
    intro k k0 k1
    have := hall k k0 k1 (fun x => ∃ i : Nat, i < m ∧ zit f a i = x) ⟨0, m2, rfl⟩ (fun c c0 c1 hc => by
      obtain ⟨i, i1, i2⟩ := hc
      refine ⟨?_, ?_⟩
      · by_cases w : i + 1 = m
        · refine ⟨0, m2, ?_⟩
          show a = f c
          rw [← i2]
          show a = zit f a (i + 1)
          rw [w, m3]
        · exact ⟨i + 1, by omega, by rw [← i2]; rfl⟩
      · match i, i1, i2 with
        | 0, i1, i2 =>
          refine ⟨m - 1, by omega, ?_⟩
          have hb := (hp _ (zit_in hp ha (m - 1)).1 (zit_in hp ha (m - 1)).2).2.2.1
          have e : f (zit f a (m - 1)) = c := by
            show zit f a (m - 1 + 1) = c
            rw [show m - 1 + 1 = m by omega, m3]
            exact i2
          rw [e] at hb
          exact hb.symm
        | i + 1, i1, i2 =>
          refine ⟨i, by omega, ?_⟩
          have hb := (hp _ (zit_in hp ha i).1 (zit_in hp ha i).2).2.2.1
          have e : f (zit f a i) = c := i2
          rw [e] at hb
          exact hb.symm)
    exact this
  have mN : (m : Int) = N := by
    have hm : (m : Int) ≤ N := by omega
    have := zN_inj (P := fun _ => true) N.toNat m (g := fun k => if h : 0 ≤ k ∧ k < N then ((sur k h.1 h.2).choose : Int) else 0) (fun k k0 k1 => by
      rw [dif_pos (by omega : 0 ≤ k ∧ k < N)]
      have := (sur k k0 (by omega)).choose_spec.1
      omega) (fun i j i0 i1 j0 j1 e => by
      have e : (if h : 0 ≤ i ∧ i < N then ((sur i h.1 h.2).choose : Int) else 0) = (if h : 0 ≤ j ∧ j < N then ((sur j h.1 h.2).choose : Int) else 0) := e
      rw [dif_pos (by omega : 0 ≤ i ∧ i < N), dif_pos (by omega : 0 ≤ j ∧ j < N)] at e
      have a1 := (sur i i0 (by omega)).choose_spec.2
      have a2 := (sur j j0 (by omega)).choose_spec.2
      have e' : (sur i i0 (by omega)).choose = (sur j j0 (by omega)).choose := by
        have : ((sur i i0 (by omega)).choose : Int) = ((sur j j0 (by omega)).choose : Int) := e
        omega
      exact a1.symm.trans ((congrArg (zit f a) e').trans a2))
    rw [zNtrue, zNtrue] at this
    omega
  refine ⟨?_, fun i j hi hj e => inj i j (by omega) (by omega) e, fun k k0 k1 => ?_⟩
  · rw [show N.toNat = m by omega]
    exact m3
  · obtain ⟨i, i1, i2⟩ := sur k k0 k1
    exact ⟨i, by omega, i2⟩
theorem zFw_Or {f q : Int → Int} {N a b : Int} (hp : zPm f q N) (ha : 0 ≤ a ∧ a < N) (h : zFw f a b) : zOr f q N a b := by
  have := h (fun x => (0 ≤ x ∧ x < N) ∧ zOr f q N a x) ⟨ha, zOr_r⟩ (fun c hc => ⟨(hp c hc.1.1 hc.1.2).1, zOr_p hc.1 hc.2⟩)
  exact this.2
end RM

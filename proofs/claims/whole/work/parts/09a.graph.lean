/-! BITS -/
def zbt (v e : Int) : Bool := v.toNat.testBit e.toNat
theorem zpw (a : Int) : ((2 : Int) ^ a.toNat).toNat = 2 ^ a.toNat := by
  have : (2 : Int) ^ a.toNat = ((2 ^ a.toNat : Nat) : Int) := by simp
  rw [this]
  rfl
theorem zpw' (a : Int) : (2 : Int) ^ a.toNat = ((2 ^ a.toNat : Nat) : Int) := by simp
theorem zdv {v a : Int} (hv : 0 ≤ v) : v / 2 ^ a.toNat = ((v.toNat / 2 ^ a.toNat : Nat) : Int) := by
  rw [zpw']
  obtain ⟨w, rfl⟩ := Int.eq_ofNat_of_zero_le hv
  rfl
theorem zbt_z {v e : Int} (hv : 0 ≤ v) : (v / 2 ^ e.toNat) % 2 = 0 ↔ zbt v e = false := by
  rw [zdv hv]
  unfold zbt
  rw [Nat.testBit_eq_decide_div_mod_eq, decide_eq_false_iff_not]
  omega
theorem zbt_l {v e : Int} (hv : 0 ≤ v) : (((v / 2 ^ e.toNat : Int).toNat &&& (1 : Int).toNat : Nat) : Int) = 0 ↔ zbt v e = false := by
  rw [zdv hv]
  unfold zbt
  rw [Nat.testBit_eq_decide_div_mod_eq, decide_eq_false_iff_not]
  have e1 : ((1 : Int).toNat) = 1 := rfl
  have e2 : ∀ x : Nat, ((x : Nat) : Int).toNat = x := fun x => by omega
  rw [e1, e2, Nat.and_one_is_mod]
  omega
theorem zdv_n {v a : Int} (hv : 0 ≤ v) : 0 ≤ v / 2 ^ a.toNat := by
  rw [zdv hv]
  exact Int.natCast_nonneg _
def zor (v a : Int) : Int := ((v.toNat ||| ((2 : Int) ^ a.toNat).toNat : Nat) : Int)
def zan (v a : Int) : Int := ((v.toNat ^^^ (v.toNat &&& ((2 : Int) ^ a.toNat).toNat) : Nat) : Int)
theorem zbt_or {v a b : Int} (ha : 0 ≤ a) (hb : 0 ≤ b) : zbt (zor v a) b = (zbt v b || decide (b = a)) := by
  unfold zbt zor
  have e2 : ∀ x : Nat, ((x : Nat) : Int).toNat = x := fun x => by omega
  rw [e2, zpw, Nat.testBit_or, Nat.testBit_two_pow]
  congr 1
  by_cases q : b = a
  · rw [decide_eq_true q, q]
    exact decide_eq_true rfl
  · rw [decide_eq_false q]
    exact decide_eq_false (by omega)
theorem zbt_an {v a b : Int} (ha : 0 ≤ a) (hb : 0 ≤ b) : zbt (zan v a) b = (zbt v b && !decide (b = a)) := by
  unfold zbt zan
  have e2 : ∀ x : Nat, ((x : Nat) : Int).toNat = x := fun x => by omega
  rw [e2, zpw, Nat.testBit_xor, Nat.testBit_and, Nat.testBit_two_pow]
  by_cases q : b = a
  · rw [decide_eq_true q, q, decide_eq_true rfl]
    cases v.toNat.testBit a.toNat <;> rfl
  · rw [decide_eq_false q, decide_eq_false (by omega)]
    cases v.toNat.testBit b.toNat <;> rfl
theorem zbt_pow {a b : Int} (ha : 0 ≤ a) (hb : 0 ≤ b) : zbt ((2 : Int) ^ a.toNat) b = decide (b = a) := by
  unfold zbt
  rw [zpw, Nat.testBit_two_pow]
  by_cases q : b = a
  · rw [decide_eq_true q, q]
    exact decide_eq_true rfl
  · rw [decide_eq_false q]
    exact decide_eq_false (by omega)
theorem zor_n {v a : Int} : 0 ≤ zor v a := by
  unfold zor
  omega
theorem zan_n {v a : Int} : 0 ≤ zan v a := by
  unfold zan
  omega
theorem zpw_lt {a n : Nat} (h : a < n) : 2 ^ a < 2 ^ n := Nat.pow_lt_pow_right (by decide) h
theorem zor_lt {v a : Int} {n : Nat} (hv : v < ((2 ^ n : Nat) : Int)) (ha : a.toNat < n) : zor v a < ((2 ^ n : Nat) : Int) := by
  unfold zor
  rw [zpw]
  have h1 : v.toNat < 2 ^ n := by
    have : 0 < 2 ^ n := Nat.pow_pos (by decide)
    omega
  have := Nat.or_lt_two_pow h1 (zpw_lt ha)
  omega
theorem zan_lt {v a : Int} {n : Nat} (hv : v < ((2 ^ n : Nat) : Int)) : zan v a < ((2 ^ n : Nat) : Int) := by
  unfold zan
  have h1 : v.toNat < 2 ^ n := by
    have : 0 < 2 ^ n := Nat.pow_pos (by decide)
    omega
  have := Nat.xor_lt_two_pow h1 (Nat.lt_of_le_of_lt (Nat.and_le_left (n := v.toNat) (m := ((2 : Int) ^ a.toNat).toNat)) h1)
  omega
theorem zbt_ext {v w : Int} (hv : 0 ≤ v) (hw : 0 ≤ w) (h : ∀ e, 0 ≤ e → zbt v e = zbt w e) : v = w := by
  have : v.toNat = w.toNat := Nat.eq_of_testBit_eq fun i => by
    have := h i (by omega)
    unfold zbt at this
    rw [show ((i : Int)).toNat = i by omega] at this
    exact this
  omega
theorem zbt_0 {e : Int} : zbt 0 e = false := by
  unfold zbt
  exact Nat.zero_testBit _
theorem zbt_hi {v e : Int} {n : Nat} (hv : v < ((2 ^ n : Nat) : Int)) (he : n ≤ e.toNat) : zbt v e = false := by
  unfold zbt
  refine Nat.testBit_lt_two_pow (Nat.lt_of_lt_of_le (m := 2 ^ n) ?_ (Nat.pow_le_pow_right (by decide) he))
  have : 0 < 2 ^ n := Nat.pow_pos (by decide)
  omega
/-! counting: one more, one less -/
theorem zN_on {P : Int → Bool} {a : Int} : ∀ n : Nat, 0 ≤ a → P a = false → zN n (fun x => decide (x = a) || P x) = zN n P + (if a < n then 1 else 0) := by
  intro n a0 h
  induction n with
  | zero => rw [if_neg (by omega)]; rfl
  | succ n ih =>
    rw [zN_s, zN_s, ih]
    by_cases g : (n : Int) = a
    · have e1 : zi (decide ((n : Int) = a) || P n) = 1 := by rw [decide_eq_true g]; rfl
      have e2 : zi (P (n : Int)) = 0 := by rw [g]; exact zi_f h
      rw [e1, e2, if_neg (by omega), if_pos (by omega)]
    · have e1 : zi (decide ((n : Int) = a) || P n) = zi (P n) := by rw [decide_eq_false g]; rfl
      rw [e1]
      by_cases r : a < n
      · rw [if_pos r, if_pos (by omega)]
        omega
      · rw [if_neg r, if_neg (by omega)]
        omega
theorem zN_off {P : Int → Bool} {a : Int} {n : Nat} (ha : 0 ≤ a ∧ a < n) (h : P a = true) : zN n (fun x => P x && !decide (x = a)) = zN n P - 1 := by
  have := zN_on (P := fun x => P x && !decide (x = a)) (a := a) n ha.1 (by rw [decide_eq_true rfl]; simp)
  rw [if_pos ha.2] at this
  have e : (fun x => decide (x = a) || (P x && !decide (x = a))) = P := by
    funext x
    by_cases q : x = a
    · rw [q, h, decide_eq_true rfl]
      rfl
    · rw [decide_eq_false q]
      cases P x <;> rfl
  rw [e] at this
  omega
theorem zN_pos {P : Int → Bool} {n : Nat} (h : 0 < zN n P) : ∃ j : Int, 0 ≤ j ∧ j < n ∧ P j = true := by
  obtain ⟨j, a, b, c, _⟩ := zN_surj (P := P) (f := 0) (Int.le_refl 0) n h
  exact ⟨j, a, b, c⟩
theorem zN_zero {P : Int → Bool} {n : Nat} (h : zN n P = 0) {j : Int} (hj : 0 ≤ j ∧ j < n) : P j = false := by
  cases hp : P j with
  | false => rfl
  | true =>
    have := zN_off hj hp
    have := (zN_r (P := fun x => P x && !decide (x = j)) n).1
    omega
/-! FACES joined by HINGES -/
def zJ (F : Int) (ac ed : Int → Int) (H : Int → Bool) (a b : Int) : Prop := ∀ P : Int → Prop, P a → (∀ k, 0 ≤ k → k < 4 * F → H (ed k) = true → P (k / 4) → P (ac k / 4)) → P b
def zon (H : Int → Bool) (e : Int) : Int → Bool := fun x => decide (x = e) || H x
def zof (H : Int → Bool) (e : Int) : Int → Bool := fun x => H x && !decide (x = e)
theorem zon_e {H : Int → Bool} {e : Int} : zon H e e = true := by
  unfold zon
  rw [decide_eq_true rfl]
  rfl
theorem zon_ne {H : Int → Bool} {e x : Int} (h : x ≠ e) : zon H e x = H x := by
  unfold zon
  rw [decide_eq_false h]
  rfl
theorem zof_e {H : Int → Bool} {e : Int} : zof H e e = false := by
  unfold zof
  rw [decide_eq_true rfl]
  simp
theorem zof_ne {H : Int → Bool} {e x : Int} (h : x ≠ e) : zof H e x = H x := by
  unfold zof
  rw [decide_eq_false h]
  simp
theorem zon_m {H : Int → Bool} {e x : Int} (h : H x = true) : zon H e x = true := by
  unfold zon
  rw [h]
  simp
theorem zof_m {H : Int → Bool} {e x : Int} (h : zof H e x = true) : H x = true := by
  unfold zof at h
  rw [Bool.and_eq_true] at h
  exact h.1
theorem zon_of {H : Int → Bool} {e : Int} (h : H e = true) : zon (zof H e) e = H := by
  funext x
  by_cases q : x = e
  · rw [q, zon_e, h]
  · rw [zon_ne q, zof_ne q]
theorem zof_on {H : Int → Bool} {e : Int} (h : H e = false) : zof (zon H e) e = H := by
  funext x
  by_cases q : x = e
  · rw [q, zof_e, h]
  · rw [zof_ne q, zon_ne q]
theorem zof_on2 {H : Int → Bool} {e x : Int} (h : x ≠ e) : zof (zon H e) x = zon (zof H x) e := by
  funext y
  unfold zof zon
  by_cases q : y = x
  · subst q
    simp [h]
  · by_cases r : y = e
    · subst r
      simp [q]
    · simp [q, r]
section GA
variable {F a b c k e : Int} {ac ed es : Int → Int} {H H' : Int → Bool}
theorem zJ_r : zJ F ac ed H a a := fun _ h _ => h
theorem zJ_tr (h : zJ F ac ed H a b) (h' : zJ F ac ed H b c) : zJ F ac ed H a c := fun P x y => h' P (h P x y) y
theorem zJ_st (hk : 0 ≤ k ∧ k < 4 * F) (hh : H (ed k) = true) (h : zJ F ac ed H a (k / 4)) : zJ F ac ed H a (ac k / 4) := fun P x y => y k hk.1 hk.2 hh (h P x y)
theorem zJ_mono (hm : ∀ x, H x = true → H' x = true) (h : zJ F ac ed H a b) : zJ F ac ed H' a b := fun P x y => h P x (fun k k0 k1 hh hp => y k k0 k1 (hm _ hh) hp)
theorem zJ_sy (sk : zSK F ac ed es) (h : zJ F ac ed H a b) : zJ F ac ed H b a := by
  refine h (fun x => zJ F ac ed H x a) zJ_r (fun k k0 k1 hh hx => zJ_tr ?_ hx)
  obtain ⟨s1, s2, s3, s4, s5, s6⟩ := sk.2.1 k k0 k1
  have := zJ_st (F := F) (ac := ac) (ed := ed) (H := H) (k := ac k) s1 (by rw [s5]; exact hh) (a := ac k / 4) zJ_r
  rw [s2] at this
  exact this
theorem zJ_in (sk : zSK F ac ed es) (ha : 0 ≤ a ∧ a < F) (h : zJ F ac ed H a b) : 0 ≤ b ∧ b < F := by
  refine h (fun x => 0 ≤ x ∧ x < F) ha (fun k k0 k1 _ _ => ?_)
  have := (sk.2.1 k k0 k1).1
  omega
theorem zsame (sk : zSK F ac ed es) {j : Int} (hk : 0 ≤ k ∧ k < 4 * F) (hj : 0 ≤ j ∧ j < 4 * F) (h : ed k = ed j) : k = j ∨ k = ac j := by
  obtain ⟨s1, s2, s3, s4, s5, s6⟩ := sk.2.1 k hk.1 hk.2
  obtain ⟨t1, t2, t3, t4, t5, t6⟩ := sk.2.1 j hj.1 hj.2
  rw [h, t6] at s6
  rcases (by omega : k = j ∨ k = ac j ∨ ac k = j ∨ ac k = ac j) with q | q | q | q
  · exact Or.inl q
  · exact Or.inr q
  · rw [← q, s2]
    exact Or.inr rfl
  · left
    rw [← s2, q, t2]
theorem zJ_add (sk : zSK F ac ed es) {k0 : Int} (hk0 : 0 ≤ k0 ∧ k0 < 4 * F) (h : zJ F ac ed (zon H (ed k0)) a b) : zJ F ac ed H a b ∨ (zJ F ac ed H a (k0 / 4) ∧ zJ F ac ed H (ac k0 / 4) b) ∨ (zJ F ac ed H a (ac k0 / 4) ∧ zJ F ac ed H (k0 / 4) b) := by
  refine h (fun x => zJ F ac ed H a x ∨ (zJ F ac ed H a (k0 / 4) ∧ zJ F ac ed H (ac k0 / 4) x) ∨ (zJ F ac ed H a (ac k0 / 4) ∧ zJ F ac ed H (k0 / 4) x)) (Or.inl zJ_r) (fun k k1 k2 hh hx => ?_)
  by_cases q : ed k = ed k0
  · rcases zsame sk ⟨k1, k2⟩ hk0 q with r | r
    · subst r
      rcases hx with x | x | x
      · exact Or.inr (Or.inl ⟨x, zJ_r⟩)
      · exact Or.inr (Or.inl ⟨x.1, zJ_r⟩)
      · exact Or.inl x.1
    · subst r
      rw [(sk.2.1 k0 hk0.1 hk0.2).2.1]
      rcases hx with x | x | x
      · exact Or.inr (Or.inr ⟨x, zJ_r⟩)
      · exact Or.inl x.1
      · exact Or.inr (Or.inr ⟨x.1, zJ_r⟩)
  · rw [zon_ne q] at hh
    rcases hx with x | x | x
    · exact Or.inl (zJ_st ⟨k1, k2⟩ hh x)
    · exact Or.inr (Or.inl ⟨x.1, zJ_st ⟨k1, k2⟩ hh x.2⟩)
    · exact Or.inr (Or.inr ⟨x.1, zJ_st ⟨k1, k2⟩ hh x.2⟩)
/-- no ring of HINGES -/
def zFo (F : Int) (ac ed : Int → Int) (H : Int → Bool) : Prop := ∀ k, 0 ≤ k → k < 4 * F → H (ed k) = true → ¬ zJ F ac ed (zof H (ed k)) (k / 4) (ac k / 4)
theorem zFo_of (h : zFo F ac ed H) : zFo F ac ed (zof H e) := by
  intro k k0 k1 hh hj
  refine h k k0 k1 (zof_m hh) (zJ_mono (fun x hx => ?_) hj)
  unfold zof at hx ⊢
  rw [Bool.and_eq_true, Bool.and_eq_true] at hx
  rw [Bool.and_eq_true]
  exact ⟨hx.1.1, hx.2⟩
theorem zFo_on (sk : zSK F ac ed es) {k0 : Int} (hk0 : 0 ≤ k0 ∧ k0 < 4 * F) (h : zFo F ac ed H) (hn : ¬ zJ F ac ed H (k0 / 4) (ac k0 / 4)) : zFo F ac ed (zon H (ed k0)) := by
  have s0 := sk.2.1 k0 hk0.1 hk0.2
  intro k k1 k2 hh hj
  by_cases q : ed k = ed k0
  · have hf : zJ F ac ed H (k / 4) (ac k / 4) := by
      refine zJ_mono (fun x hx => ?_) hj
      rw [q] at hx
      by_cases r : x = ed k0
      · rw [r, zof_e] at hx
        cases hx
      · rw [zof_ne r, zon_ne r] at hx
        exact hx
    rcases zsame sk ⟨k1, k2⟩ hk0 q with r | r
    · subst r
      exact hn hf
    · subst r
      rw [s0.2.1] at hf
      exact hn (zJ_sy sk hf)
  · rw [zon_ne q] at hh
    rw [zof_on2 q] at hj
    have mm : ∀ {x y}, zJ F ac ed (zof H (ed k)) x y → zJ F ac ed H x y := fun w => zJ_mono (fun x hx => zof_m hx) w
    have hkk : zJ F ac ed H (k / 4) (ac k / 4) := zJ_st ⟨k1, k2⟩ hh zJ_r
    rcases zJ_add sk hk0 hj with x | x | x
    · exact h k k1 k2 hh x
    · exact hn (zJ_tr (zJ_sy sk (mm x.1)) (zJ_tr hkk (zJ_sy sk (mm x.2))))
    · exact hn (zJ_tr (mm x.2) (zJ_tr (zJ_sy sk hkk) (mm x.1)))
theorem zFo_0 (h : ∀ x, H x = false) : zFo F ac ed H := by
  intro k k0 k1 hh
  rw [h] at hh
  cases hh
/-! parts of faces: how many -/
noncomputable def zLe (F : Int) (ac ed : Int → Int) (H : Int → Bool) (f : Int) : Bool := zpd (∀ g, 0 ≤ g → g < f → ¬ zJ F ac ed H g f)
noncomputable def zCn (F : Int) (ac ed : Int → Int) (H : Int → Bool) : Int := zN F.toNat (zLe F ac ed H)
theorem zLe_ex (sk : zSK F ac ed es) (ha : 0 ≤ a ∧ a < F) : ∃ l, 0 ≤ l ∧ l ≤ a ∧ zJ F ac ed H l a ∧ zLe F ac ed H l = true := by
  have key : ∀ n : Nat, ∀ a : Int, a.toNat ≤ n → 0 ≤ a ∧ a < F → ∃ l, 0 ≤ l ∧ l ≤ a ∧ zJ F ac ed H l a ∧ zLe F ac ed H l = true := by
    intro n
    induction n with
    | zero =>
      intro a hn ha
      exact ⟨a, ha.1, Int.le_refl _, zJ_r, zpd_t (fun g g0 g1 => by omega)⟩
    | succ n ih =>
      intro a hn ha
      by_cases q : ∀ g, 0 ≤ g → g < a → ¬ zJ F ac ed H g a
      · exact ⟨a, ha.1, Int.le_refl _, zJ_r, zpd_t q⟩
      · have : ∃ g, 0 ≤ g ∧ g < a ∧ zJ F ac ed H g a := by
          refine Classical.byContradiction fun w => q (fun g g0 g1 hj => w ⟨g, g0, g1, hj⟩)
        obtain ⟨g, g0, g1, g2⟩ := this
        obtain ⟨l, l0, l1, l2, l3⟩ := ih g (by omega) ⟨g0, by omega⟩
        exact ⟨l, l0, by omega, zJ_tr l2 g2, l3⟩
  exact key a.toNat a (Nat.le_refl _) ha
theorem zLe_le (h : zLe F ac ed H a = true) (hb : 0 ≤ b) (hj : zJ F ac ed H b a) : a ≤ b := by
  rcases (by omega : a ≤ b ∨ b < a) with q | q
  · exact q
  · exact absurd hj (zpd_i.mp h b hb q)
theorem zCn_on (sk : zSK F ac ed es) {k0 : Int} (hk0 : 0 ≤ k0 ∧ k0 < 4 * F) (hn : ¬ zJ F ac ed H (k0 / 4) (ac k0 / 4)) : zCn F ac ed (zon H (ed k0)) = zCn F ac ed H - 1 := by
  have s0 := sk.2.1 k0 hk0.1 hk0.2
  have mo : ∀ {x y}, zJ F ac ed H x y → zJ F ac ed (zon H (ed k0)) x y := fun w => zJ_mono (fun x hx => zon_m hx) w
  have ab : zJ F ac ed (zon H (ed k0)) (k0 / 4) (ac k0 / 4) := zJ_st hk0 zon_e zJ_r
  obtain ⟨la, a0, a1, a2, a3⟩ := zLe_ex (H := H) sk (a := k0 / 4) (by omega)
  obtain ⟨lb, b0, b1, b2, b3⟩ := zLe_ex (H := H) sk (a := ac k0 / 4) (by omega)
  have ne : la ≠ lb := fun q => by
    rw [← q] at b2
    exact hn (zJ_tr (zJ_sy sk a2) b2)
  have main : ∀ M m, ((M = la ∧ m = lb) ∨ (M = lb ∧ m = la)) → m < M → zCn F ac ed (zon H (ed k0)) = zCn F ac ed H - 1 := by
    intro M m hMm hlt
    have hM : (0 ≤ M ∧ M < F) ∧ 0 ≤ m ∧ zLe F ac ed H M = true := by
      rcases hMm with ⟨rfl, rfl⟩ | ⟨rfl, rfl⟩
      · exact ⟨⟨a0, by omega⟩, b0, a3⟩
      · exact ⟨⟨b0, by omega⟩, a0, b3⟩
    have jM : zJ F ac ed (zon H (ed k0)) m M := by
      rcases hMm with ⟨rfl, rfl⟩ | ⟨rfl, rfl⟩
      · exact zJ_tr (mo b2) (zJ_tr (zJ_sy sk ab) (mo (zJ_sy sk a2)))
      · exact zJ_tr (mo a2) (zJ_tr ab (mo (zJ_sy sk b2)))
    unfold zCn
    rw [← zN_off (P := zLe F ac ed H) (a := M) (n := F.toNat) (by omega) hM.2.2]
    refine zN_eq _ (fun f f0 f1 => ?_)
    by_cases q : f = M
    · subst q
      rw [decide_eq_true rfl]
      have : zLe F ac ed (zon H (ed k0)) f = false := zpd_f (fun w => w m hM.2.1 hlt jM)
      rw [this]
      simp
    · rw [decide_eq_false q]
      have hf : 0 ≤ f ∧ f < F := by omega
      by_cases r : zLe F ac ed H f = true
      · rw [r]
        show _ = true
        refine zpd_t (fun g g0 g1 hj => ?_)
        rcases zJ_add sk hk0 hj with x | x | x
        · have := zLe_le r g0 x
          omega
        · have e1 := zLe_le r b0 (zJ_tr b2 x.2)
          have e2 := zLe_le b3 f0 (zJ_tr (zJ_sy sk x.2) (zJ_sy sk b2) |> fun w => w)
          have e3 := zLe_le a3 g0 (zJ_tr x.1 (zJ_sy sk a2))
          rcases hMm with ⟨rfl, rfl⟩ | ⟨rfl, rfl⟩ <;> omega
        · have e1 := zLe_le r a0 (zJ_tr a2 x.2)
          have e2 := zLe_le a3 f0 (zJ_tr (zJ_sy sk x.2) (zJ_sy sk a2))
          have e3 := zLe_le b3 g0 (zJ_tr x.1 (zJ_sy sk b2))
          rcases hMm with ⟨rfl, rfl⟩ | ⟨rfl, rfl⟩ <;> omega
      · have r' : zLe F ac ed H f = false := by
          cases hz : zLe F ac ed H f with
          | false => rfl
          | true => exact absurd hz r
        rw [r']
        show _ = false
        refine zpd_f (fun w => r (zpd_t (fun g g0 g1 hj => w g g0 g1 (mo hj))))
  rcases (by omega : la < lb ∨ lb < la) with q | q
  · exact main lb la (Or.inr ⟨rfl, rfl⟩) q
  · exact main la lb (Or.inl ⟨rfl, rfl⟩) q
def zHn (F : Int) (H : Int → Bool) : Int := zN (2 * F).toNat H
theorem zCn_0 (sk : zSK F ac ed es) (h : zHn F H = 0) : zCn F ac ed H = F := by
  have no : ∀ k, 0 ≤ k → k < 4 * F → H (ed k) = false := fun k k0 k1 => by
    have := (sk.2.1 k k0 k1).2.2.2.1
    exact zN_zero h ⟨this.1, by omega⟩
  have eq : ∀ {x y}, zJ F ac ed H x y → x = y := fun {x y} w => w (fun z => x = z) rfl (fun k k0 k1 hh _ => by
    rw [no k k0 k1] at hh
    cases hh)
  unfold zCn
  have : zN F.toNat (zLe F ac ed H) = zN F.toNat (fun _ => true) := zN_eq _ (fun f f0 f1 => zpd_t (fun g g0 g1 hj => by
    have := eq hj
    omega))
  rw [this]
  have e : ∀ n : Nat, zN n (fun _ => true) = n := fun n => by
    induction n with
    | zero => rfl
    | succ n ih =>
      rw [zN_s, ih]
      have : zi true = 1 := rfl
      omega
  rw [e]
  have := sk.1
  omega
theorem zcount (sk : zSK F ac ed es) : ∀ (n : Nat) (H : Int → Bool), zHn F H = n → zFo F ac ed H → zCn F ac ed H + n = F := by
  intro n
  induction n with
  | zero =>
    intro H hn _
    rw [zCn_0 sk hn]
    omega
  | succ n ih =>
    intro H hn hf
    obtain ⟨e, e0, e1, e2⟩ := zN_pos (P := H) (n := (2 * F).toNat) (by unfold zHn at hn; omega)
    obtain ⟨w1, w2, w3⟩ := sk.2.2 e e0 (by omega)
    have off := zN_off (P := H) (a := e) (n := (2 * F).toNat) ⟨e0, e1⟩ e2
    have := ih (zof H e) (by unfold zHn at hn ⊢; unfold zof; omega) (zFo_of hf)
    have hk := hf (es e) w1.1 w1.2 (by rw [w2]; exact e2)
    have on := zCn_on (H := zof H e) sk (k0 := es e) w1 (by rw [w2] at hk; exact hk)
    rw [w2, zon_of e2] at on
    omega
theorem zwhole (sk : zSK F ac ed es) (hf : zFo F ac ed H) (hF : 0 < F) : zHn F H = F - 1 ↔ ∀ f, 0 ≤ f → f < F → zJ F ac ed H 0 f := by
  have h0 := (zN_r (P := H) (2 * F).toNat).1
  have c := zcount sk (zHn F H).toNat H (by unfold zHn; omega) hf
  have h0' : 0 ≤ zHn F H := h0
  have l0 : zLe F ac ed H 0 = true := zpd_t (fun g g0 g1 => by omega)
  have off := zN_off (P := zLe F ac ed H) (a := 0) (n := F.toNat) ⟨by omega, by omega⟩ l0
  constructor
  · intro hh f f0 f1
    have c1 : zCn F ac ed H = 1 := by omega
    unfold zCn at c1
    obtain ⟨l, la, lb, lc, ld⟩ := zLe_ex (H := H) sk (a := f) ⟨f0, f1⟩
    have z := zN_zero (P := fun x => zLe F ac ed H x && !decide (x = 0)) (n := F.toNat) (by omega) (j := l) ⟨la, by omega⟩
    have : l = 0 := by
      by_cases q : l = 0
      · exact q
      · simp [ld, q] at z
    rw [← this]
    exact lc
  · intro hh
    have : zN F.toNat (fun x => zLe F ac ed H x && !decide (x = 0)) = zN F.toNat (fun _ => false) := zN_eq _ (fun f f0 f1 => by
      by_cases q : f = 0
      · rw [decide_eq_true q]
        simp
      · have : zLe F ac ed H f = false := zpd_f (fun w => w 0 (by omega) (by omega) (hh f f0 (by omega)))
        rw [this]
        rfl)
    have e : ∀ n : Nat, zN n (fun _ => false) = 0 := fun n => by
      induction n with
      | zero => rfl
      | succ n ih => rw [zN_s, ih]; rfl
    rw [this, e] at off
    unfold zCn at c
    omega
end GA

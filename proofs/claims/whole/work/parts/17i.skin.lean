/-! ONE TREE of a skin told by tables; skins that are alike -/
def zTab (NX NA AC ED ES M E : Nat) : Prop := (∀ k, k < M → zq_g NX k < M ∧ zq_g AC k < M ∧ zq_g NA k = zq_g NX (zq_g AC k) ∧ zq_g ED k < E ∧ zq_g ED (zq_g AC k) = zq_g ED k ∧ (k = zq_g ES (zq_g ED k) ∨ k = zq_g AC (zq_g ES (zq_g ED k)))) ∧ ∀ e, e < E → zq_g ES e < M ∧ zq_g ED (zq_g ES e) = e
def zIso (p : zP) (φ : Nat → Int) (NX AC M : Nat) : Prop := (∀ k, k < M → 0 ≤ φ k ∧ φ k < 4 * pF p) ∧ (∀ k k', k < M → k' < M → φ k = φ k' → k = k') ∧ ∀ k, k < M → φ (zq_g NX k) = znx (φ k) ∧ φ (zq_g AC k) = pa p (φ k)
section SK2
variable {NX NA AC ED ES M E N m : Nat} {p : zP} {φ : Nat → Int} {b : Nat → Bool} {s t : Int → Int} {n : Int}
theorem zq_c_ok : ∀ (f k : Nat), (∃ j, k ≤ j ∧ j < k + f ∧ zq_h ED m j = false) → k ≤ zq_c ED m f k ∧ zq_c ED m f k < k + f ∧ zq_h ED m (zq_c ED m f k) = false
  | 0, k, h => by
    obtain ⟨j, a, b, _⟩ := h
    omega
  | f + 1, k, h => by
    have e : zq_c ED m (f + 1) k = cond (zq_h ED m k) (zq_c ED m f (k + 1)) k := rfl
    rw [e]
    cases hz : zq_h ED m k with
    | false => exact ⟨Nat.le_refl _, by show k < _; omega, hz⟩
    | true =>
      obtain ⟨j, a, b, c⟩ := h
      have ne : j ≠ k := fun z => by rw [z, hz] at c; cases c
      have := zq_c_ok f (k + 1) ⟨j, by omega, by omega, c⟩
      show k ≤ zq_c ED m f (k + 1) ∧ _
      exact ⟨by omega, by show zq_c ED m f (k + 1) < _; omega, this.2.2⟩
theorem zb1 {x : Nat} (h : x < 2) : Nat.beq x 1 = decide (x = 1) := by
  rcases (by omega : x = 0 ∨ x = 1) with rfl | rfl <;> rfl
theorem zq_h_b {r : Nat} (hb : ∀ i, i < r → m / 2 ^ i % 2 = if b i = true then 1 else 0) {k : Nat} (hk : zq_g ED k < r) : zq_h ED m k = b (zq_g ED k) := by
  have e1 : Nat.shiftRight m (zq_g ED k) = m / 2 ^ zq_g ED k := Nat.shiftRight_eq_div_pow _ _
  have e2 : Nat.land (m / 2 ^ zq_g ED k) 1 = m / 2 ^ zq_g ED k % 2 := Nat.and_one_is_mod _
  unfold zq_h
  rw [e1, e2, zb1 (Nat.mod_lt _ (by decide)), hb _ hk]
  cases b (zq_g ED k) <;> rfl
theorem zT64 (hv : zV p) (hw : zWo p) (hT : zTab NX NA AC ED ES M E) (hI : zIso p φ NX AC M) (hM : (M : Int) = 4 * pF p) (hN : (N : Int) = zRN p) (h22 : N ≤ 22) (hb : ∀ i, i < E → m / 2 ^ i % 2 = if b i = true then 1 else 0) (hbe : ∀ e, e < E → b e = pH p (pe p (φ (zq_g ES e)))) (hz : zq_k NX NA ED N M m = true) : (zgL p).length ≤ 64 := by
  have sk := zV_sk hv
  have Fp := hw.1
  have hRN : zRN p = 2 * pF p + 2 := rfl
  obtain ⟨i1, i2, i3⟩ := hI
  have Hh : ∀ k, k < M → zq_h ED m k = pH p (pe p (φ k)) := fun k hk => by
    obtain ⟨t1, t2, t3, t4, t5, t6⟩ := hT.1 k hk
    rw [zq_h_b hb t4, hbe _ t4]
    have es := (hT.2 _ t4).1
    rcases t6 with t6 | t6
    · rw [← t6]
    · have a := (i3 _ es).2
      rw [← t6] at a
      have r := i1 _ es
      rw [a, (sk.2.1 _ r.1 r.2).2.2.2.2.1]
  have ex : ∃ j, 0 ≤ j ∧ j < 0 + M ∧ zq_h ED m j = false := by
    -- pu p is cut; count the sides: all of them are told
    refine Classical.byContradiction fun no => ?_
    have all : ∀ k, k < M → pH p (pe p (φ k)) = true := fun k hk => by
      rw [← Hh k hk]
      cases hh : zq_h ED m k with
      | true => rfl
      | false => exact absurd ⟨k, Nat.zero_le _, by omega, hh⟩ no
    obtain ⟨z1, z2, _⟩ := zrim hv hw
    have c := zN_inj (P := fun s => !decide (s = pu p)) M (4 * pF p).toNat (g := fun k => φ k.toNat) (fun k k0 k1 => by have := i1 k.toNat (by omega); omega) (fun k k' k0 k1 k2 k3 e => by have := i2 k.toNat k'.toNat (by omega) (by omega) e; omega)
    have c : zN M (fun i : Int => !decide (φ i.toNat = pu p)) ≤ zN (4 * pF p).toNat (fun s => !decide (s = pu p)) := c
    have c1 : zN M (fun i : Int => !decide (φ i.toNat = pu p)) = M := by
      rw [zN_eq (Q := fun _ => true) M (fun k k0 k1 => by
        show (!decide (φ k.toNat = pu p)) = true
        rw [decide_eq_false (fun e => by
          have := all k.toNat (by omega)
          rw [e, z2] at this
          cases this)]
        rfl), zNtrue]
    have c2 := zN_off (P := fun _ => true) (a := pu p) (n := (4 * pF p).toNat) (by omega) rfl
    rw [zNtrue] at c2
    have c3 : (fun x => (fun _ => true) x && !decide (x = pu p)) = (fun s => !decide (s = pu p)) := funext fun x => by simp
    rw [c3] at c2
    omega
  obtain ⟨f1, f2, f3⟩ := zq_c_ok M 0 ex
  rw [Nat.zero_add] at f2
  obtain ⟨r0, hr0, ac⟩ := zwalk (NX := NX) (NA := NA) (ED := ED) (m := m) (c0 := zq_c ED m M 0) (φ := φ) hv hw hM i2 (fun k hk => ⟨(hT.1 k hk).1, (i3 k hk).1⟩) (fun k hk => by
    obtain ⟨t1, t2, t3, _⟩ := hT.1 k hk
    rw [t3]
    refine ⟨(hT.1 _ t2).1, ?_⟩
    rw [(i3 _ t2).1, (i3 k hk).2]) Hh i1 f2 (by rw [← Hh _ f2]; exact f3)
  have eN : (zRN p).toNat = N := by omega
  rw [eN] at ac
  have hz2 : zq_e N (zq_w NX NA ED m (zq_c ED m M 0) M (zq_g NX (zq_c ED m M 0)) 1 [] ++ zq_w NX NA ED m (zq_c ED m M 0) M (zq_g NX (zq_c ED m M 0)) 1 []) (2 * N) 0 [] [] = true := hz
  have G := zGl_64 (r := (2 * N - 1 - r0.toNat) % N) (A := zrA p) h22 (by omega) (by omega) ac hz2 (Nat.mod_lt _ (by omega)) (fun x hx => by
    have pos := zrA_r hv hw (k := x) ⟨by omega, by omega⟩
    have e : (r0 + (((2 * N - 1 - r0.toNat) % N + x) % N : Nat) + 1) % zRN p = x := by
      rw [← hN, show r0 = ((r0.toNat : Nat) : Int) by omega]
      have e1 : ((r0.toNat : Int) + ((((2 * N - 1 - ((r0.toNat : Int)).toNat) % N + x) % N : Nat) : Int) + 1) % (N : Int) = (((r0.toNat + ((2 * N - 1 - r0.toNat) % N + x) % N + 1) % N : Nat) : Int) := by
        rw [show ((r0.toNat : Int)).toNat = r0.toNat by omega, Int.natCast_emod (r0.toNat + ((2 * N - 1 - r0.toNat) % N + x) % N + 1) N]
        exact congrArg (fun z => z % (N : Int)) (by omega)
      rw [e1]
      have e2 : (r0.toNat + ((2 * N - 1 - r0.toNat) % N + x) % N + 1) % N = x := by
        rw [Nat.mod_add_mod, Nat.add_right_comm, Nat.add_mod_mod, show r0.toNat + 1 + (2 * N - 1 - r0.toNat + x) = x + 2 * N by omega, Nat.add_mul_mod_self_right, Nat.mod_eq_of_lt hx]
      rw [e2]
    show zrA p x = (((zrA p ((r0 + (((2 * N - 1 - r0.toNat) % N + x) % N : Nat) + 1) % zRN p)).toNat : Nat) : Int)
    rw [e]
    omega)
  unfold zgL
  rw [← hN, show ((N : Int) + 1).toNat = N + 1 by omega]
  exact G
/-- how many HINGES, told by edges of the table -/
theorem znb_zN : ∀ r : Nat, (znb b r : Int) = zN r (fun e => b e.toNat)
  | 0 => rfl
  | r + 1 => by
    have ih := znb_zN r
    rw [zN_s, ← ih]
    show (((if b r = true then 1 else 0) + znb b r : Nat) : Int) = _
    have : ((r : Int)).toNat = r := by omega
    rw [this]
    cases b r
    · show ((0 + znb b r : Nat) : Int) = znb b r + 0
      omega
    · show ((1 + znb b r : Nat) : Int) = znb b r + 1
      omega
theorem znb_F (hv : zV p) (hw : zWo p) (hT : zTab NX NA AC ED ES M E) (hI : zIso p φ NX AC M) (hE : (E : Int) = 2 * pF p) (hbe : ∀ e, e < E → b e = pH p (pe p (φ (zq_g ES e)))) : (znb b E : Int) = pF p - 1 := by
  have sk := zV_sk hv
  have hh : zHn (pF p) (pH p) = pF p - 1 := (zwhole sk hv.2.2.2.1 hw.1).mpr hw.2
  obtain ⟨i1, i2, i3⟩ := hI
  have gr : ∀ e, e < E → 0 ≤ pe p (φ (zq_g ES e)) ∧ pe p (φ (zq_g ES e)) < 2 * pF p := fun e he => by
    have r := i1 _ (hT.2 e he).1
    exact (sk.2.1 _ r.1 r.2).2.2.2.1
  have gi : ∀ e e', e < E → e' < E → pe p (φ (zq_g ES e)) = pe p (φ (zq_g ES e')) → e = e' := fun e e' he he' q => by
    obtain ⟨a1, a2⟩ := hT.2 e he
    obtain ⟨b1, b2⟩ := hT.2 e' he'
    have r := i1 _ a1
    have r' := i1 _ b1
    obtain ⟨_, x2, _, _, _, x6⟩ := sk.2.1 _ r.1 r.2
    obtain ⟨_, y2, _, _, _, y6⟩ := sk.2.1 _ r'.1 r'.2
    have q2 : pe p (φ (zq_g ES e)) = pe p (φ (zq_g ES e')) := q
    rw [q2, y6] at x6
    have cs : φ (zq_g ES e) = φ (zq_g ES e') ∨ φ (zq_g ES e) = pa p (φ (zq_g ES e')) := by
      rcases (by omega : φ (zq_g ES e) = φ (zq_g ES e') ∨ φ (zq_g ES e) = pa p (φ (zq_g ES e')) ∨ pa p (φ (zq_g ES e)) = φ (zq_g ES e') ∨ pa p (φ (zq_g ES e)) = pa p (φ (zq_g ES e'))) with z | z | z | z
      · exact Or.inl z
      · exact Or.inr z
      · exact Or.inr (by rw [← z, x2])
      · exact Or.inl (by rw [← x2, z, y2])
    rcases cs with z | z
    · have := i2 _ _ a1 b1 z
      rw [← a2, this, b2]
    · rw [← (i3 _ b1).2] at z
      have := i2 _ _ a1 (hT.1 _ b1).2.1 z
      rw [← a2, this, (hT.1 _ b1).2.2.2.2.1, b2]
  have g1 := zN_inj (P := pH p) E (2 * pF p).toNat (g := fun e => pe p (φ (zq_g ES e.toNat))) (fun e e0 e1 => by have := gr e.toNat (by omega); omega) (fun e e' e0 e1 e2 e3 q => by have := gi e.toNat e'.toNat (by omega) (by omega) q; omega)
  have g2 := zN_inj (P := fun x => !pH p x) E (2 * pF p).toNat (g := fun e => pe p (φ (zq_g ES e.toNat))) (fun e e0 e1 => by have := gr e.toNat (by omega); omega) (fun e e' e0 e1 e2 e3 q => by have := gi e.toNat e'.toNat (by omega) (by omega) q; omega)
  have n1 := zN_not (P := pH p) (2 * pF p).toNat
  have n2 := zN_not (P := fun e : Int => pH p (pe p (φ (zq_g ES e.toNat)))) E
  unfold zHn at hh
  have e1 : zN E (fun e => b e.toNat) = zN E (fun e : Int => pH p (pe p (φ (zq_g ES e.toNat)))) := zN_eq _ (fun e e0 e1 => hbe _ (by omega))
  rw [znb_zN, e1]
  have g1' : zN E (fun e : Int => pH p (pe p (φ (zq_g ES e.toNat)))) ≤ zN (2 * pF p).toNat (pH p) := g1
  have g2' : zN E (fun e : Int => !pH p (pe p (φ (zq_g ES e.toNat)))) ≤ zN (2 * pF p).toNat (fun x => !pH p x) := g2
  omega
end SK2

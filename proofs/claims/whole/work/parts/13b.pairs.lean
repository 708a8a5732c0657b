/-! TRADES: pairs at one place, counted -/
def zD (P : Int → Int → Bool) : Int := zS 30 (fun a => zN 30 (P a))
theorem zN_plus {P : Int → Bool} (n : Nat) : ∀ k : Nat, zN (n + k) P = zN n P + zN k (fun j => P (n + j))
  | 0 => by show zN n P = zN n P + 0; omega
  | k + 1 => by
    rw [show n + (k + 1) = (n + k) + 1 by omega, zN_s, zN_s, zN_plus n k, show ((n + k : Nat) : Int) = (n : Int) + (k : Int) by omega]
    omega
theorem zN_nil {P : Int → Bool} : ∀ n : Nat, (∀ i : Int, 0 ≤ i → i < n → P i = false) → zN n P = 0
  | 0, _ => rfl
  | n + 1, h => by
    rw [zN_s, zN_nil n (fun i a b => h i a (by omega)), zi_f (h n (by omega) (by omega))]
    rfl
theorem zD_flat {P : Int → Int → Bool} : zN 900 (fun t => P (t / 30) (t % 30)) = zD P := by
  have key : ∀ n : Nat, zN (30 * n) (fun t => P (t / 30) (t % 30)) = zS n (fun a => zN 30 (P a)) := by
    intro n
    induction n with
    | zero => rfl
    | succ n ih =>
      rw [show 30 * (n + 1) = 30 * n + 30 by omega, zN_plus, ih, zS_s]
      have : zN 30 (fun j => P ((((30 * n : Nat) : Int) + j) / 30) ((((30 * n : Nat) : Int) + j) % 30)) = zN 30 (P n) := zN_eq 30 (fun i i0 i1 => by
        rw [show ((((30 * n : Nat) : Int) + i) / 30) = n by omega, show ((((30 * n : Nat) : Int) + i) % 30) = i by omega])
      rw [this]
  exact key 30
theorem zD_eq {P Q : Int → Int → Bool} (h : ∀ a b, 0 ≤ a → a < 30 → 0 ≤ b → b < 30 → P a b = Q a b) : zD P = zD Q := zS_eq 30 (fun a a0 a1 => zN_eq 30 (fun b b0 b1 => h a b a0 a1 b0 b1))
theorem zD_swap {P : Int → Int → Bool} : zD P = zD (fun a b => P b a) := by
  unfold zD zN
  exact zS_swap 30 30
theorem zD_add {P Q R : Int → Int → Bool} (h : ∀ a b, 0 ≤ a → a < 30 → 0 ≤ b → b < 30 → zi (P a b) = zi (Q a b) + zi (R a b)) : zD P = zD Q + zD R := by
  unfold zD
  rw [← zS_add]
  refine zS_eq 30 (fun a a0 a1 => ?_)
  unfold zN
  rw [← zS_add]
  exact zS_eq 30 (fun b b0 b1 => h a b a0 a1 b0 b1)
theorem zD_b {P : Int → Int → Bool} : 0 ≤ zD P ∧ zD P ≤ 900 := by
  unfold zD
  constructor
  · exact zS_nn 30 (fun a _ _ => (zN_r 30).1)
  · have := zS_le (f := fun a => zN 30 (P a)) (g := fun _ => 30) 30 (fun a _ _ => (zN_r 30).2)
    rw [zS_const] at this
    omega
/-- twos of S at one place -/
def zws (p : zP) (S : Int → Bool) (b a : Int) : Bool := decide (a < b) && S a && S b && decide (zX p a = zX p b) && decide (zY p a = zY p b)
/-- those that move on those that stay -/
def zbw (p : zP) (s h : Int) (f g : Int) : Bool := zoff p h f && zrest p h g && decide (zX p g = zmX p s f) && decide (zY p g = zmY p s f)
section PR
variable {a b c e h k f r s : Int} {p : zP} {S : Int → Bool}
theorem zoN_D : zoN p = zD (zws p (zPl p)) := by
  have e : zoN p = zD (fun a b => zws p (zPl p) b a) := by
    rw [← zD_flat]
    rfl
  rw [e]
  exact zD_swap
theorem zoN_435 : 0 ≤ zoN p ∧ zoN p ≤ 435 := by
  refine ⟨zoN_b.1, ?_⟩
  rw [zoN_D]
  have := zS_le (f := fun b => zN 30 (zws p (zPl p) b)) (g := fun b => b) 30 (fun b b0 b1 => by
    have e := zN_flat (P := zws p (zPl p) b) (i := b) (j := 30) b0 (by omega) (fun t t0 t1 => by
      unfold zws
      rw [decide_eq_false (by omega)]
      rfl)
    show zN 30 (zws p (zPl p) b) ≤ b
    have e' : zN 30 (zws p (zPl p) b) = zN b.toNat (zws p (zPl p) b) := e
    rw [e']
    have := (zN_r (P := zws p (zPl p) b) b.toNat).2
    omega)
  have e2 : zS 30 (fun b => b) = 435 := by decide +kernel
  unfold zD
  omega
theorem zrest_not (hv : zV p) (hw : zWo p) (hf : 0 ≤ f ∧ f < pF p) : zrest p h f = !zoff p h f := by
  have := zPl_w hw hv hf
  unfold zoff zrest
  rw [this]
  simp
theorem zrot_i {c x y x' y' A B : Int} (hc : 0 ≤ c ∧ c < 4) : (A + x * zsx c - y * zsy c = A + x' * zsx c - y' * zsy c ∧ B + x * zsy c + y * zsx c = B + x' * zsy c + y' * zsx c) ↔ (x = x' ∧ y = y') := by
  refine zd4 (P := fun c => (A + x * zsx c - y * zsy c = A + x' * zsx c - y' * zsy c ∧ B + x * zsy c + y * zsx c = B + x' * zsy c + y' * zsx c) ↔ (x = x' ∧ y = y')) hc ?_ ?_ ?_ ?_
  · show (A + x * 1 - y * 0 = A + x' * 1 - y' * 0 ∧ B + x * 0 + y * 1 = B + x' * 0 + y' * 1) ↔ _
    omega
  · show (A + x * 0 - y * 1 = A + x' * 0 - y' * 1 ∧ B + x * 1 + y * 0 = B + x' * 1 + y' * 0) ↔ _
    omega
  · show (A + x * (-1) - y * 0 = A + x' * (-1) - y' * 0 ∧ B + x * 0 + y * (-1) = B + x' * 0 + y' * (-1)) ↔ _
    omega
  · show (A + x * 0 - y * (-1) = A + x' * 0 - y' * (-1) ∧ B + x * (-1) + y * 0 = B + x' * (-1) + y' * 0) ↔ _
    omega
theorem zmc_r : 0 ≤ zmc p s ∧ zmc p s < 4 := by unfold zmc; omega
theorem zm_inj : (zmX p s a = zmX p s b ∧ zmY p s a = zmY p s b) ↔ (zX p a = zX p b ∧ zY p a = zY p b) := by
  have := zrot_i (A := zX p (s / 4) + zsx (zwy (zT p) s)) (B := zY p (s / 4) + zsy (zwy (zT p) s)) (x := zX p a - zX p (pa p s / 4)) (y := zY p a - zY p (pa p s / 4)) (x' := zX p b - zX p (pa p s / 4)) (y' := zY p b - zY p (pa p s / 4)) (zmc_r (p := p) (s := s))
  unfold zmX zmY
  rw [this]
  omega
theorem zdd {P Q P' Q' : Prop} [Decidable P] [Decidable Q] [Decidable P'] [Decidable Q'] (h : (P ∧ Q) ↔ (P' ∧ Q')) : (decide P && decide Q) = (decide P' && decide Q') := by
  rw [← Bool.decide_and, ← Bool.decide_and]
  exact decide_eq_decide.mpr h
/-- how many OVERLAPS there are behind a trade -/
theorem zoN_T (hv : zV p) (hw : zWo p) (ht : zTd p e h) (hs : 0 ≤ s ∧ s < 4 * pF p) (hse : pe p s = e) (hso : zoff p h (s / 4) = false) (hmo : zoff p h (pa p s / 4) = true) : zoN (psT p e h) = zD (zws p (zoff p h)) + zD (zws p (zrest p h)) + zD (zbw p s h) := by
  have F0 : 0 ≤ pF p ∧ pF p ≤ 30 := (zV_sk hv).1
  have hv' := zT_V hv ht
  have hw' := zT_W hv hw ht
  rw [zoN_D]
  let M1 : Int → Int → Bool := fun b a => decide (a < b) && zbw p s h a b
  let M2 : Int → Int → Bool := fun b a => decide (a < b) && zbw p s h b a
  let W1 : Int → Int → Bool := fun b a => zws p (zoff p h) b a || zws p (zrest p h) b a
  let M : Int → Int → Bool := fun b a => M1 b a || M2 b a
  have no : ∀ f, ¬ (0 ≤ f ∧ f < pF p) → zoff p h f = false ∧ zrest p h f = false := fun f hf => by
    constructor
    · cases hz : zoff p h f with
      | false => rfl
      | true => exact absurd (zoff_r hv hz) hf
    · cases hz : zrest p h f with
      | false => rfl
      | true => exact absurd (zrest_r hv hz) hf
  have dis : ∀ f, zoff p h f = true → zrest p h f = true → False := fun f h1 h2 => by
    rw [zrest_not hv hw (zoff_r hv h1), h1] at h2
    cases h2
  have s1 : zD (zws (psT p e h) (zPl (psT p e h))) = zD W1 + zD M := zD_add (fun b a b0 b1 a0 a1 => by
    by_cases ra : 0 ≤ a ∧ a < pF p
    · by_cases rb : 0 ≤ b ∧ b < pF p
      · obtain ⟨xa, ya, _⟩ := zmoved hv hw ht hs hse hso hmo ra
        obtain ⟨xb, yb, _⟩ := zmoved hv hw ht hs hse hso hmo rb
        have pa' := zPl_w (p := psT p e h) hw' hv' ra
        have pb' := zPl_w (p := psT p e h) hw' hv' rb
        have na := zrest_not (h := h) hv hw ra
        have nb := zrest_not (h := h) hv hw rb
        show zi (zws (psT p e h) (zPl (psT p e h)) b a) = zi (zws p (zoff p h) b a || zws p (zrest p h) b a) + zi ((decide (a < b) && zbw p s h a b) || (decide (a < b) && zbw p s h b a))
        unfold zws zbw
        rw [xa, ya, xb, yb, pa', pb', na, nb]
        unfold znX znY
        cases ha : zoff p h a with
        | true =>
          cases hb : zoff p h b with
          | true =>
            rw [if_pos rfl, if_pos rfl, if_pos rfl, if_pos rfl]
            have := zdd (zm_inj (p := p) (s := s) (a := a) (b := b))
            rw [Bool.and_assoc (_ && _ && _), this]
            cases decide (a < b) <;> simp [zi]
          | false =>
            rw [if_pos rfl, if_pos rfl, if_neg (by decide), if_neg (by decide), show decide (zmX p s a = zX p b) = decide (zX p b = zmX p s a) from decide_eq_decide.mpr ⟨Eq.symm, Eq.symm⟩, show decide (zmY p s a = zY p b) = decide (zY p b = zmY p s a) from decide_eq_decide.mpr ⟨Eq.symm, Eq.symm⟩]
            cases decide (a < b) <;> simp [zi]
        | false =>
          cases hb : zoff p h b with
          | true =>
            rw [if_neg (by decide), if_pos rfl, if_neg (by decide), if_pos rfl]
            cases decide (a < b) <;> simp [zi]
          | false =>
            rw [if_neg (by decide), if_neg (by decide), if_neg (by decide), if_neg (by decide)]
            cases decide (a < b) <;> simp [zi]
      · have n1 : zPl (psT p e h) b = false := by
          cases hz : zPl (psT p e h) b with
          | false => rfl
          | true => exact absurd (zPl_in (p := psT p e h) hv' hz).1 rb
        show zi (zws (psT p e h) (zPl (psT p e h)) b a) = zi (zws p (zoff p h) b a || zws p (zrest p h) b a) + zi ((decide (a < b) && zbw p s h a b) || (decide (a < b) && zbw p s h b a))
        unfold zws zbw
        rw [n1, (no b rb).1, (no b rb).2]
        simp [zi]
    · have n1 : zPl (psT p e h) a = false := by
        cases hz : zPl (psT p e h) a with
        | false => rfl
        | true => exact absurd (zPl_in (p := psT p e h) hv' hz).1 ra
      show zi (zws (psT p e h) (zPl (psT p e h)) b a) = zi (zws p (zoff p h) b a || zws p (zrest p h) b a) + zi ((decide (a < b) && zbw p s h a b) || (decide (a < b) && zbw p s h b a))
      unfold zws zbw
      rw [n1, (no a ra).1, (no a ra).2]
      simp [zi])
  have orp : ∀ {P Q : Bool}, (P = true → Q = true → False) → zi (P || Q) = zi P + zi Q := fun {P Q} h => by
    cases P <;> cases Q
    · rfl
    · rfl
    · rfl
    · exact absurd (h rfl rfl) (fun x => x)
  have s2 : zD W1 = zD (zws p (zoff p h)) + zD (zws p (zrest p h)) := zD_add (fun b a b0 b1 a0 a1 => orp (fun h1 h2 => by
    unfold zws at h1 h2
    simp only [Bool.and_eq_true] at h1 h2
    exact dis a h1.1.1.1.2 h2.1.1.1.2))
  have s3 : zD M = zD M1 + zD M2 := zD_add (fun b a b0 b1 a0 a1 => orp (fun h1 h2 => by
    have h1 : (decide (a < b) && zbw p s h a b) = true := h1
    have h2 : (decide (a < b) && zbw p s h b a) = true := h2
    unfold zbw at h1 h2
    simp only [Bool.and_eq_true] at h1 h2
    exact dis a h1.2.1.1.1 h2.2.1.1.2))
  have s4 : zD M1 = zD (fun a b => decide (a < b) && zbw p s h a b) := zD_swap
  have s5 : zD (zbw p s h) = zD (fun a b => decide (a < b) && zbw p s h a b) + zD M2 := zD_add (fun b a b0 b1 a0 a1 => by
    show zi (zbw p s h b a) = zi (decide (b < a) && zbw p s h b a) + zi (decide (a < b) && zbw p s h b a)
    by_cases q : b = a
    · have : zbw p s h b a = false := by
        cases hz : zbw p s h b a with
        | false => rfl
        | true =>
          unfold zbw at hz
          simp only [Bool.and_eq_true] at hz
          rw [q] at hz
          exact absurd (dis a hz.1.1.1 hz.1.1.2) (fun x => x)
      rw [this]
      simp [zi]
    · by_cases w : b < a
      · rw [decide_eq_true w, decide_eq_false (by omega)]
        simp [zi]
      · rw [decide_eq_false w, decide_eq_true (by omega)]
        simp [zi])
  omega
end PR

/-! at most 30 FACES: each cube but the first touches one ahead of it -/
theorem zk_no {s : Int → Int} {n k d e : Int} (hn : 0 ≤ n) : zk s n k d e = -1 ↔ ∀ q, 0 ≤ q → q < n → zat s q k d e = false := by
  unfold zk
  have key : ∀ p, 0 ≤ p → p ≤ n → (zr (fun q => !zat s q k d e) n p < n ↔ ∃ q, p ≤ q ∧ q < n ∧ zat s q k d e = true) := by
    refine z_up (fun p h1 h2 ih => ?_)
    by_cases h : p < n ∧ (!zat s p k d e) = true
    · rw [zr_y h.1 h.2, ih h.1]
      constructor
      · rintro ⟨q, a, b, c⟩
        exact ⟨q, by omega, b, c⟩
      · rintro ⟨q, a, b, c⟩
        refine ⟨q, ?_, b, c⟩
        rcases (by omega : p = q ∨ p + 1 ≤ q) with r | r
        · subst r
          have := h.2
          rw [c] at this
          cases this
        · exact r
    · rw [zr_no h]
      constructor
      · intro q
        refine ⟨p, Int.le_refl p, q, ?_⟩
        cases hz : zat s p k d e with
        | true => rfl
        | false => exact absurd ⟨q, by show (!zat s p k d e) = true; rw [hz]; rfl⟩ h
      · rintro ⟨q, a, b, _⟩
        omega
  have k0 := key 0 (by omega) hn
  have r0 := (zr_le (P := fun q => !zat s q k d e) (L := n) (p := 0) hn).1
  split
  · rename_i h
    obtain ⟨q, a, b, c⟩ := k0.mp h
    constructor
    · intro h'
      omega
    · intro h'
      rw [h' q a b] at c
      cases c
  · rename_i h
    constructor
    · intro _ q a b
      cases hz : zat s q k d e with
      | false => rfl
      | true => exact absurd (k0.mpr ⟨q, a, b, hz⟩) h
    · intro _
      rfl
theorem zN_add {P : Int → Bool} (n k : Nat) : zN (n + k) P = zN n P + zN k (fun i => P (n + i)) := by
  induction k with
  | zero =>
    show zN n P = zN n P + 0
    omega
  | succ k ih =>
    rw [show n + (k + 1) = n + k + 1 by omega, zN_s, ih, zN_s]
    have e : ((n + k : Nat) : Int) = (n : Int) + (k : Int) := by omega
    rw [e]
    omega
theorem zab_0 {x : Int} (h : zab x = 0) : x = 0 := by
  unfold zab at h
  omega
theorem zab_1 {x : Int} (h : zab x = 1) : x = 1 ∨ x = -1 := by
  unfold zab at h
  omega
theorem zab_n (x : Int) : 0 ≤ zab x := by
  unfold zab
  omega
theorem zat_of {s : Int → Int} {q k d e : Int} (h0 : s (3 * q + 0) = s (3 * k + 0) + (zst d 0 + zst e 0)) (h1 : s (3 * q + 1) = s (3 * k + 1) + (zst d 1 + zst e 1)) (h2 : s (3 * q + 2) = s (3 * k + 2) + (zst d 2 + zst e 2)) : zat s q k d e = true := by
  unfold zat
  exact decide_eq_true ⟨h0, h1, h2⟩
theorem zat_to {s : Int → Int} {q k d e : Int} (h : zat s q k d e = true) : s (3 * q + 0) = s (3 * k + 0) + (zst d 0 + zst e 0) ∧ s (3 * q + 1) = s (3 * k + 1) + (zst d 1 + zst e 1) ∧ s (3 * q + 2) = s (3 * k + 2) + (zst d 2 + zst e 2) := by
  unfold zat at h
  exact of_decide_eq_true h
/-- two cubes with a common side: the direction -/
theorem z_touch {s : Int → Int} {a b : Int} (h : z_di s a b = 1) : ∃ d, 0 ≤ d ∧ d < 6 ∧ zat s a b d (-1) = true ∧ ∃ e, 0 ≤ e ∧ e < 6 ∧ zat s b a e (-1) = true := by
  have hz : ∀ c, zst (-1) c = 0 := zst_n
  have t0 : zst 0 0 = 1 ∧ zst 0 1 = 0 ∧ zst 0 2 = 0 := by decide
  have t1 : zst 1 0 = -1 ∧ zst 1 1 = 0 ∧ zst 1 2 = 0 := by decide
  have t2 : zst 2 0 = 0 ∧ zst 2 1 = 1 ∧ zst 2 2 = 0 := by decide
  have t3 : zst 3 0 = 0 ∧ zst 3 1 = -1 ∧ zst 3 2 = 0 := by decide
  have t4 : zst 4 0 = 0 ∧ zst 4 1 = 0 ∧ zst 4 2 = 1 := by decide
  have t5 : zst 5 0 = 0 ∧ zst 5 1 = 0 ∧ zst 5 2 = -1 := by decide
  have m0 := hz 0
  have m1 := hz 1
  have m2 := hz 2
  unfold z_di z_ap at h
  have n0 := zab_n (s (3 * a + 0) - s (3 * b + 0))
  have n1 := zab_n (s (3 * a + 1) - s (3 * b + 1))
  have n2 := zab_n (s (3 * a + 2) - s (3 * b + 2))
  rcases (by omega : (zab (s (3 * a + 0) - s (3 * b + 0)) = 1 ∧ zab (s (3 * a + 1) - s (3 * b + 1)) = 0 ∧ zab (s (3 * a + 2) - s (3 * b + 2)) = 0) ∨ (zab (s (3 * a + 0) - s (3 * b + 0)) = 0 ∧ zab (s (3 * a + 1) - s (3 * b + 1)) = 1 ∧ zab (s (3 * a + 2) - s (3 * b + 2)) = 0) ∨ (zab (s (3 * a + 0) - s (3 * b + 0)) = 0 ∧ zab (s (3 * a + 1) - s (3 * b + 1)) = 0 ∧ zab (s (3 * a + 2) - s (3 * b + 2)) = 1)) with ⟨q0, q1, q2⟩ | ⟨q0, q1, q2⟩ | ⟨q0, q1, q2⟩
  · have g1 := zab_0 q1
    have g2 := zab_0 q2
    rcases zab_1 q0 with g0 | g0
    · exact ⟨0, by decide, by decide, zat_of (by omega) (by omega) (by omega), 1, by decide, by decide, zat_of (by omega) (by omega) (by omega)⟩
    · exact ⟨1, by decide, by decide, zat_of (by omega) (by omega) (by omega), 0, by decide, by decide, zat_of (by omega) (by omega) (by omega)⟩
  · have g1 := zab_0 q0
    have g2 := zab_0 q2
    rcases zab_1 q1 with g0 | g0
    · exact ⟨2, by decide, by decide, zat_of (by omega) (by omega) (by omega), 3, by decide, by decide, zat_of (by omega) (by omega) (by omega)⟩
    · exact ⟨3, by decide, by decide, zat_of (by omega) (by omega) (by omega), 2, by decide, by decide, zat_of (by omega) (by omega) (by omega)⟩
  · have g1 := zab_0 q0
    have g2 := zab_0 q1
    rcases zab_1 q2 with g0 | g0
    · exact ⟨4, by decide, by decide, zat_of (by omega) (by omega) (by omega), 5, by decide, by decide, zat_of (by omega) (by omega) (by omega)⟩
    · exact ⟨5, by decide, by decide, zat_of (by omega) (by omega) (by omega), 4, by decide, by decide, zat_of (by omega) (by omega) (by omega)⟩
/-- all cubes may stand, each behind those ahead -/
def zSt (s : Int → Int) (n : Int) : Prop := ∀ i, 0 ≤ i → i < n → zc_st s i
/-- no two alike -/
def zDs (s : Int → Int) (n : Int) : Prop := ∀ i j, 0 ≤ i → i < n → 0 ≤ j → j < n → s (3 * i + 0) = s (3 * j + 0) → s (3 * i + 1) = s (3 * j + 1) → s (3 * i + 2) = s (3 * j + 2) → i = j
theorem zab_00 : zab 0 = 0 := by decide
theorem zSt_Ds {s : Int → Int} {n : Int} (h : zSt s n) : zDs s n := by
  intro i j i0 i1 j0 j1 e0 e1 e2
  have d0 : z_di s i j = 0 := by
    unfold z_di z_ap
    rw [e0, e1, e2, Int.sub_self, Int.sub_self, Int.sub_self, zab_00]
    rfl
  have d1 : z_di s j i = 0 := by
    unfold z_di z_ap
    rw [e0, e1, e2, Int.sub_self, Int.sub_self, Int.sub_self, zab_00]
    rfl
  rcases (by omega : i < j ∨ i = j ∨ j < i) with q | q | q
  · exact absurd d1 ((h j j0 j1).1 i i0 q)
  · exact q
  · exact absurd d0 ((h i i0 i1).1 j j0 q)
theorem zfr_iff {s : Int → Int} {n c d : Int} (hn : 0 ≤ n) (hd : 0 ≤ d ∧ d < 6) : zfr s n (6 * c + d) = true ↔ ∀ q, 0 ≤ q → q < n → zat s q c d (-1) = false := by
  unfold zfr
  rw [decide_eq_true_iff, show (6 * c + d) / 6 = c by omega, show (6 * c + d) % 6 = d by omega]
  exact zk_no hn
theorem zF30 {s : Int → Int} : ∀ n : Nat, zSt s n → zN (6 * n) (zfr s n) ≤ 4 * n + 2 ∨ n = 0 := by
  intro n
  induction n with
  | zero => intro _; exact Or.inr rfl
  | succ n ih =>
    intro h
    left
    by_cases hn : n = 0
    · subst hn
      have := (zN_r (P := zfr s 1) 6).2
      show zN 6 (zfr s 1) ≤ _
      omega
    · rcases ih (fun i a b => h i a (by omega)) with ih | ih
      · have hs := (h n (by omega) (by omega)).2
        rcases hs with hs | ⟨o, o0, o1, hs⟩
        · omega
        · obtain ⟨d, d0, d1, hd, e, e0, e1, he⟩ := z_touch hs
          have hD := zSt_Ds h
          have hc : ((n + 1 : Nat) : Int) = (n : Int) + 1 := by omega
          rw [hc] at hD ⊢
          have a1 : zN (6 * n) (zfr s (n + 1)) < zN (6 * n) (zfr s n) := by
            refine zN_lt (6 * n) (fun i i0 i1 hi => ?_) (j := 6 * o + d) ⟨by omega, by omega⟩ ?_ ?_
            · have ei : i = 6 * (i / 6) + i % 6 := by omega
              rw [ei] at hi ⊢
              rw [zfr_iff (by omega) (by omega)] at hi ⊢
              exact fun q q0 q1 => hi q q0 (by omega)
            · cases hz : zfr s (n + 1) (6 * o + d) with
              | false => rfl
              | true =>
                rw [zfr_iff (by omega) ⟨d0, d1⟩] at hz
                rw [hz n (by omega) (by omega)] at hd
                cases hd
            · rw [zfr_iff (by omega) ⟨d0, d1⟩]
              intro q q0 q1
              cases hz : zat s q o d (-1) with
              | false => rfl
              | true =>
                have x := zat_to hz
                have y := zat_to hd
                have := hD q n q0 (by omega) (by omega) (by omega) (by omega) (by omega) (by omega)
                omega
          have a2 : zN 6 (fun i => zfr s (n + 1) ((6 * n : Nat) + i)) < zN 6 (fun _ => true) := by
            refine zN_lt 6 (fun _ _ _ _ => rfl) (j := e) ⟨e0, by omega⟩ ?_ rfl
            show zfr s (n + 1) ((6 * n : Nat) + e) = false
            rw [show ((6 * n : Nat) : Int) + e = 6 * (n : Int) + e by omega]
            cases hz : zfr s (n + 1) (6 * (n : Int) + e) with
            | false => rfl
            | true =>
              rw [zfr_iff (by omega) ⟨e0, e1⟩] at hz
              rw [hz o o0 (by omega)] at he
              cases he
          have a3 : zN 6 (fun _ => true) = 6 := by decide
          rw [show 6 * (n + 1) = 6 * n + 6 by omega, zN_add]
          omega
      · omega
theorem zF_30 {s : Int → Int} {n : Int} (hn : 0 ≤ n ∧ n ≤ 7) (h : zSt s n) : zN (6 * n.toNat) (zfr s n) ≤ 30 := by
  have e : ((n.toNat : Nat) : Int) = n := by omega
  have := zF30 (s := s) n.toNat (by rw [e]; exact h)
  rw [e] at this
  rcases this with q | q
  · omega
  · have := (zN_r (P := zfr s n) (6 * n.toNat)).2
    omega

/-! how many bits -/
def zm5 : Nat → Nat
  | 0 => 0
  | k + 1 => 5 + 16 * zm5 k
def zm3 : Nat → Nat
  | 0 => 0
  | k + 1 => 3 + 16 * zm3 k
def zmF : Nat → Nat
  | 0 => 0
  | k + 1 => 15 + 256 * zmF k
theorem zand16 (n m N M : Nat) (hn : n < 16) (hm : m < 16) : (n + 16 * N) &&& (m + 16 * M) = (n &&& m) + 16 * (N &&& M) := by
  have h1 : ((n + 16 * N) &&& (m + 16 * M)) % 2 ^ 4 = n &&& m := by
    rw [Nat.and_mod_two_pow, show (n + 16 * N) % 2 ^ 4 = n by omega, show (m + 16 * M) % 2 ^ 4 = m by omega]
  have h2 : ((n + 16 * N) &&& (m + 16 * M)) / 2 ^ 4 = N &&& M := by
    rw [Nat.and_div_two_pow, show (n + 16 * N) / 2 ^ 4 = N by omega, show (m + 16 * M) / 2 ^ 4 = M by omega]
  omega
def zpc (n : Nat) : Nat := ((n - ((n / 2) &&& 5)) &&& 3) + ((n - ((n / 2) &&& 5)) / 4 &&& 3)
def zp1 (k a : Nat) : Nat := a - ((a / 2) &&& zm5 k)
def zp2 (k a : Nat) : Nat := (zp1 k a &&& zm3 k) + ((zp1 k a / 4) &&& zm3 k)
theorem zpc_le : ∀ n : Nat, n < 16 → zpc n ≤ 4 ∧ (n / 2 &&& 5) ≤ n := by decide +kernel
theorem zh5 : ∀ n : Nat, n < 16 → ∀ b : Nat, b < 2 → ((n / 2 + 8 * b) &&& 5) = (n / 2) &&& 5 := by decide +kernel
theorem zh3 : ∀ n : Nat, n < 16 → ∀ b : Nat, b < 4 → ((n / 4 + 4 * b) &&& 3) = (n / 4) &&& 3 := by decide +kernel
theorem zp1_s (k a : Nat) : zp1 (k + 1) a = (a % 16 - ((a % 16) / 2 &&& 5)) + 16 * zp1 k (a / 16) := by
  have e : (a / 2) &&& zm5 (k + 1) = ((a % 16) / 2 &&& 5) + 16 * ((a / 16 / 2) &&& zm5 k) := by
    show (a / 2) &&& (5 + 16 * zm5 k) = _
    have e1 : a / 2 = ((a % 16) / 2 + 8 * (a / 16 % 2)) + 16 * (a / 16 / 2) := by omega
    rw [e1, zand16 _ _ _ _ (by omega) (by decide), zh5 (a % 16) (by omega) _ (by omega)]
  have l1 := (zpc_le (a % 16) (by omega)).2
  have l2 : (a / 16 / 2) &&& zm5 k ≤ a / 16 / 2 := Nat.and_le_left
  unfold zp1
  rw [e]
  omega
theorem zp2_s (k a : Nat) : zp2 (k + 1) a = zpc (a % 16) + 16 * zp2 k (a / 16) := by
  have l1 := (zpc_le (a % 16) (by omega)).2
  unfold zp2
  rw [zp1_s]
  generalize hl : a % 16 - ((a % 16) / 2 &&& 5) = l
  generalize zp1 k (a / 16) = x
  have ll : l < 16 := by omega
  show (l + 16 * x &&& (3 + 16 * zm3 k)) + ((l + 16 * x) / 4 &&& (3 + 16 * zm3 k)) = _
  have e1 : (l + 16 * x) / 4 = (l / 4 + 4 * (x % 4)) + 16 * (x / 4) := by omega
  rw [zand16 _ _ _ _ ll (by decide), e1, zand16 _ _ _ _ (by omega) (by decide), zh3 l ll _ (by omega)]
  unfold zpc
  rw [hl]
  omega
theorem zand256 (b0 b1 Y M : Nat) (h0 : b0 < 16) (h1 : b1 < 16) : (b0 + 16 * b1 + 256 * Y) &&& (15 + 256 * M) = b0 + 256 * (Y &&& M) := by
  have e1 : b0 + 16 * b1 + 256 * Y = b0 + 16 * (b1 + 16 * Y) := by omega
  have e2 : 15 + 256 * M = 15 + 16 * (0 + 16 * M) := by omega
  have e3 : ∀ n : Nat, n < 16 → n &&& 15 = n := by decide +kernel
  rw [e1, e2, zand16 _ _ _ _ h0 (by decide), zand16 _ _ _ _ h1 (by decide), Nat.and_zero, e3 b0 h0]
  omega
def zps' : Nat → Nat → Nat
  | 0, _ => 0
  | k + 1, a => zpc (a % 16) + zps' k (a / 16)
theorem zpc_n : ∀ n : Nat, n < 16 → ((zpc n : Nat) : Int) = zN 4 (fun i => n.testBit i.toNat) := by decide +kernel
theorem zps_n : ∀ (k a : Nat), ((zps' k a : Nat) : Int) = zN (4 * k) (fun i => a.testBit i.toNat) := by
  intro k
  induction k with
  | zero => intro a; rfl
  | succ k ih =>
    intro a
    show ((zpc (a % 16) + zps' k (a / 16) : Nat) : Int) = _
    rw [show 4 * (k + 1) = 4 + 4 * k by omega, zN_add]
    have e1 : zN 4 (fun i => a.testBit i.toNat) = zN 4 (fun i => (a % 16).testBit i.toNat) := zN_eq 4 (fun i i0 i1 => by
      rw [show a % 16 = a % 2 ^ 4 from rfl, Nat.testBit_mod_two_pow, decide_eq_true (by omega : i.toNat < 4)]
      simp)
    have e2 : zN (4 * k) (fun i => a.testBit (((4 : Nat) : Int) + i).toNat) = zN (4 * k) (fun i => (a / 16).testBit i.toNat) := zN_eq _ (fun i i0 i1 => by
      show a.testBit (((4 : Nat) : Int) + i).toNat = (a / 2 ^ 4).testBit i.toNat
      rw [Nat.testBit_div_two_pow]
      congr 1
      omega)
    rw [e1, e2, ← zpc_n (a % 16) (by omega), ← ih]
    omega
theorem zp2_lt : ∀ (k a : Nat), 15 * zp2 k a + 4 ≤ 4 * 16 ^ k := by
  intro k
  induction k with
  | zero => intro a; have : zp2 0 a = 0 := by unfold zp2; show (zp1 0 a &&& 0) + (zp1 0 a / 4 &&& 0) = 0; rw [Nat.and_zero, Nat.and_zero]
            omega
  | succ k ih =>
    intro a
    rw [zp2_s]
    have := ih (a / 16)
    have := (zpc_le (a % 16) (by omega)).1
    rw [Nat.pow_succ]
    omega
theorem zp2_m (k a : Nat) : zp2 k a % 16 ≤ 4 := by
  cases k with
  | zero => have : zp2 0 a = 0 := by unfold zp2; show (zp1 0 a &&& 0) + (zp1 0 a / 4 &&& 0) = 0; rw [Nat.and_zero, Nat.and_zero]
            omega
  | succ k =>
    rw [zp2_s]
    have := (zpc_le (a % 16) (by omega)).1
    omega
def zp3 (k x : Nat) : Nat := (x + x / 16) &&& zmF k
theorem zp3_s (k a : Nat) : zp3 (k + 1) (zp2 (2 * k + 2) a) = (zpc (a % 16) + zpc (a / 16 % 16)) + 256 * zp3 k (zp2 (2 * k) (a / 16 / 16)) := by
  have h0 := (zpc_le (a % 16) (by omega)).1
  have h1 := (zpc_le (a / 16 % 16) (by omega)).1
  have hm := zp2_m (2 * k) (a / 16 / 16)
  unfold zp3
  rw [show 2 * k + 2 = 2 * k + 1 + 1 by omega, zp2_s, zp2_s]
  generalize zpc (a % 16) = P0 at *
  generalize zpc (a / 16 % 16) = P1 at *
  generalize zp2 (2 * k) (a / 16 / 16) = X at *
  show _ &&& (15 + 256 * zmF k) = _
  have e : P0 + 16 * (P1 + 16 * X) + (P0 + 16 * (P1 + 16 * X)) / 16 = (P0 + P1) + 16 * (P1 + X % 16) + 256 * (X + X / 16) := by omega
  rw [e, zand256 _ _ _ _ (by omega) (by omega)]
theorem zp3_0 (x : Nat) : zp3 0 x = 0 := Nat.and_zero _
theorem zf1 (p0 p1 p2 X2 X3 : Int) (h0 : 0 ≤ p0 ∧ p0 ≤ 8) (h1 : 0 ≤ p1 ∧ p1 ≤ 8) (h2 : 0 ≤ p2 ∧ p2 ≤ 8) : ((p0 + 256 * (p1 + 256 * X2)) + (p1 + 256 * (p2 + 256 * X3))) / 65536 = X2 + X3 := by omega
theorem zf2 (L X4 X5 X6 X7 : Int) (h : 0 ≤ L ∧ L < 4294967296) : (L + 4294967296 * (X4 + X5 + X6 + X7)) / 4294967296 = X4 + X5 + X6 + X7 := by omega
theorem zfold (p0 p1 p2 p3 p4 p5 p6 p7 X1 X2 X3 X4 X5 X6 x : Int) (h0 : 0 ≤ p0 ∧ p0 ≤ 8) (h1 : 0 ≤ p1 ∧ p1 ≤ 8) (h2 : 0 ≤ p2 ∧ p2 ≤ 8) (h3 : 0 ≤ p3 ∧ p3 ≤ 8) (h4 : 0 ≤ p4 ∧ p4 ≤ 8) (h5 : 0 ≤ p5 ∧ p5 ≤ 8) (h6 : 0 ≤ p6 ∧ p6 ≤ 8) (h7 : 0 ≤ p7 ∧ p7 ≤ 8) (e6 : X6 = p6 + 256 * p7) (e5 : X5 = p5 + 256 * X6) (e4 : X4 = p4 + 256 * X5) (e3 : X3 = p3 + 256 * X4) (e2 : X2 = p2 + 256 * X3) (e1 : X1 = p1 + 256 * X2) (e0 : x = p0 + 256 * X1) : 0 ≤ x ∧ z_J (x + x / 256) ∧ 0 ≤ x + x / 256 ∧ z_J ((x + x / 256) + (x + x / 256) / 65536) ∧ 0 ≤ (x + x / 256) + (x + x / 256) / 65536 ∧ z_J (((x + x / 256) + (x + x / 256) / 65536) + ((x + x / 256) + (x + x / 256) / 65536) / 4294967296) ∧ (Int.bmod (((x + x / 256) + (x + x / 256) / 65536) + ((x + x / 256) + (x + x / 256) / 65536) / 4294967296) 4294967296) % 128 = p0 + p1 + p2 + p3 + p4 + p5 + p6 + p7 := by
  have b6 : 0 ≤ X6 ∧ X6 ≤ 2056 := by omega
  have b5 : 0 ≤ X5 ∧ X5 ≤ 526344 := by omega
  have b4 : 0 ≤ X4 ∧ X4 ≤ 134744072 := by omega
  have b3 : 0 ≤ X3 ∧ X3 ≤ 34494482440 := by omega
  have b2 : 0 ≤ X2 ∧ X2 ≤ 8830587504648 := by omega
  have b1 : 0 ≤ X1 ∧ X1 ≤ 2260630401189896 := by omega
  have b0 : 0 ≤ x ∧ x ≤ 578721382704613384 := by omega
  have q1 : x / 256 = X1 := by omega
  rw [q1]
  have q2 : (x + X1) / 65536 = X2 + X3 := by
    have := zf1 p0 p1 p2 X2 X3 h0 h1 h2
    rw [← e2, ← e1, ← e0] at this
    exact this
  rw [q2]
  have c0 : x = (p0 + 256 * p1 + 65536 * p2 + 16777216 * p3) + 4294967296 * X4 := by omega
  have c1 : X1 = (p1 + 256 * p2 + 65536 * p3 + 16777216 * p4) + 4294967296 * X5 := by omega
  have c2 : X2 = (p2 + 256 * p3 + 65536 * p4 + 16777216 * p5) + 4294967296 * X6 := by omega
  have c3 : X3 = (p3 + 256 * p4 + 65536 * p5 + 16777216 * p6) + 4294967296 * p7 := by omega
  have q3 : (x + X1 + (X2 + X3)) / 4294967296 = X4 + X5 + X6 + p7 := by
    have := zf2 ((p0 + 256 * p1 + 65536 * p2 + 16777216 * p3) + (p1 + 256 * p2 + 65536 * p3 + 16777216 * p4) + (p2 + 256 * p3 + 65536 * p4 + 16777216 * p5) + (p3 + 256 * p4 + 65536 * p5 + 16777216 * p6)) X4 X5 X6 p7 (by clear e0 e1 e2 e3 e4 e5 e6 c0 c1 c2 c3 q1 q2; omega)
    rw [← this]
    congr 1
    clear e0 e1 e2 e3 e4 e5 e6 q1 q2
    omega
  rw [q3]
  refine ⟨b0.1, ⟨by omega, by omega⟩, by omega, ⟨by omega, by omega⟩, by omega, ⟨by omega, by omega⟩, ?_⟩
  have hb : ∀ v : Int, (Int.bmod v 4294967296) % 128 = v % 128 := fun v => by
    rw [Int.bmod_def]
    split <;> omega
  have e : x + X1 + (X2 + X3) + (X4 + X5 + X6 + p7) = (p0 + p1 + p2 + p3 + p4 + p5 + p6 + p7) + 256 * (X1 + X2 + X3 + X4 + X5 + X6 + p7) := by
    clear c0 c1 c2 c3 q1 q2 q3 b0 b1 b2 b3 b4 b5 b6
    omega
  rw [hb, e]
  clear e e0 e1 e2 e3 e4 e5 e6 c0 c1 c2 c3 q1 q2 q3 b0 b1 b2 b3 b4 b5 b6
  omega
section BC
variable {o : Int} {H : Int → Bool} {μ : z_Mem} {d : Nat} {K : Int → z_Mem → Prop}
theorem e_bitCount (A : Nat) (hA : A < 2 ^ 60) (hk : K (zN 60 (zbt A)) μ) : z_ci m_J13_bitCount_95d88 [(1, (A : Int))] μ d K := by
  have t1 : (2 : Int) ^ (1 : Int).toNat = 2 := by decide
  have t2 : (2 : Int) ^ (2 : Int).toNat = 4 := by decide
  have t4 : (2 : Int) ^ (4 : Int).toNat = 16 := by decide
  have t8 : (2 : Int) ^ (8 : Int).toNat = 256 := by decide
  have t16 : (2 : Int) ^ (16 : Int).toNat = 65536 := by decide
  have t32 : (2 : Int) ^ (32 : Int).toNat = 4294967296 := by decide +kernel
  have c5 : (6148914691236517205 : Int).toNat = zm5 16 := by decide +kernel
  have c3 : (3689348814741910323 : Int).toNat = zm3 16 := by decide +kernel
  have cF : (1085102592571150095 : Int).toNat = zmF 8 := by decide +kernel
  refine V_J13_bitCount_95d88 ?_
  rw [t1, t2, t4, t8, t16, t32, c5, c3, cF]
  have hb : (A : Int) < 1152921504606846976 := by
    have : (2 : Nat) ^ 60 = 1152921504606846976 := by decide
    omega
  have a2 : ((A : Int) / 2).toNat = A / 2 := by omega
  rw [a2]
  have l5 : A / 2 &&& zm5 16 ≤ A / 2 := Nat.and_le_left
  have e1 : (A : Int) - ((A / 2 &&& zm5 16 : Nat) : Int) = ((zp1 16 A : Nat) : Int) := by
    unfold zp1
    omega
  have b1 : zp1 16 A ≤ A := Nat.sub_le _ _
  rw [e1]
  have f1 : ((zp1 16 A : Nat) : Int).toNat = zp1 16 A := by omega
  have f2 : (((zp1 16 A : Nat) : Int) / 4).toNat = zp1 16 A / 4 := by omega
  rw [f1, f2]
  have e2 : ((zp1 16 A &&& zm3 16 : Nat) : Int) + ((zp1 16 A / 4 &&& zm3 16 : Nat) : Int) = ((zp2 16 A : Nat) : Int) := by
    unfold zp2
    omega
  rw [e2]
  have nn : (0 : Int) ≤ (A : Int) := by omega
  have sm := zps_n 16 A
  have eT : zN 60 (zbt (A : Int)) = zN (4 * 16) (fun i => A.testBit i.toNat) := by
    have e4 := zN_add (P := fun i => A.testBit i.toNat) 60 4
    have z4 : zN 4 (fun i => A.testBit (((60 : Nat) : Int) + i).toNat) = zN 4 (fun _ => false) := zN_eq 4 (fun i i0 i1 => Nat.testBit_lt_two_pow (Nat.lt_of_lt_of_le hA (Nat.pow_le_pow_right (by decide) (by omega))))
    have z0 : zN 4 (fun _ => false) = 0 := rfl
    rw [z4, z0] at e4
    show zN 60 (fun i => A.testBit i.toNat) = zN 64 _
    rw [e4]
    omega
  rw [eT, ← sm] at hk
  have lt2 := zp2_lt 16 A
  have p16 : (16 : Nat) ^ 16 = 18446744073709551616 := by decide +kernel
  rw [p16] at lt2
  have x3 : zp3 8 (zp2 16 A) = zp3 8 (zp2 16 A) := rfl
  have eZ : (((zp2 16 A : Nat) : Int) + ((zp2 16 A : Nat) : Int) / 16).toNat = zp2 16 A + zp2 16 A / 16 := by omega
  rw [eZ]
  have e3 : (zp2 16 A + zp2 16 A / 16) &&& zmF 8 = zp3 8 (zp2 16 A) := rfl
  rw [e3]
  have g := fun n : Nat => (zpc_le (n % 16) (by omega)).1
  have u7 := zp3_s 7 A
  have u6 := zp3_s 6 (A / 16 / 16)
  have u5 := zp3_s 5 (A / 16 / 16 / 16 / 16)
  have u4 := zp3_s 4 (A / 16 / 16 / 16 / 16 / 16 / 16)
  have u3 := zp3_s 3 (A / 16 / 16 / 16 / 16 / 16 / 16 / 16 / 16)
  have u2 := zp3_s 2 (A / 16 / 16 / 16 / 16 / 16 / 16 / 16 / 16 / 16 / 16)
  have u1 := zp3_s 1 (A / 16 / 16 / 16 / 16 / 16 / 16 / 16 / 16 / 16 / 16 / 16 / 16)
  have u0 := zp3_s 0 (A / 16 / 16 / 16 / 16 / 16 / 16 / 16 / 16 / 16 / 16 / 16 / 16 / 16 / 16)
  have hs : zps' 16 A = (zpc (A % 16) + zpc (A / 16 % 16)) + ((zpc (A / 16 / 16 % 16) + zpc (A / 16 / 16 / 16 % 16)) + ((zpc (A / 16 / 16 / 16 / 16 % 16) + zpc (A / 16 / 16 / 16 / 16 / 16 % 16)) + ((zpc (A / 16 / 16 / 16 / 16 / 16 / 16 % 16) + zpc (A / 16 / 16 / 16 / 16 / 16 / 16 / 16 % 16)) + ((zpc (A / 16 / 16 / 16 / 16 / 16 / 16 / 16 / 16 % 16) + zpc (A / 16 / 16 / 16 / 16 / 16 / 16 / 16 / 16 / 16 % 16)) + ((zpc (A / 16 / 16 / 16 / 16 / 16 / 16 / 16 / 16 / 16 / 16 % 16) + zpc (A / 16 / 16 / 16 / 16 / 16 / 16 / 16 / 16 / 16 / 16 / 16 % 16)) + ((zpc (A / 16 / 16 / 16 / 16 / 16 / 16 / 16 / 16 / 16 / 16 / 16 / 16 % 16) + zpc (A / 16 / 16 / 16 / 16 / 16 / 16 / 16 / 16 / 16 / 16 / 16 / 16 / 16 % 16)) + (zpc (A / 16 / 16 / 16 / 16 / 16 / 16 / 16 / 16 / 16 / 16 / 16 / 16 / 16 / 16 % 16) + zpc (A / 16 / 16 / 16 / 16 / 16 / 16 / 16 / 16 / 16 / 16 / 16 / 16 / 16 / 16 / 16 % 16)))))))) := by
    show zpc (A % 16) + (zpc (A / 16 % 16) + (zpc (A / 16 / 16 % 16) + (zpc (A / 16 / 16 / 16 % 16) + (zpc (A / 16 / 16 / 16 / 16 % 16) + (zpc (A / 16 / 16 / 16 / 16 / 16 % 16) + (zpc (A / 16 / 16 / 16 / 16 / 16 / 16 % 16) + (zpc (A / 16 / 16 / 16 / 16 / 16 / 16 / 16 % 16) + (zpc (A / 16 / 16 / 16 / 16 / 16 / 16 / 16 / 16 % 16) + (zpc (A / 16 / 16 / 16 / 16 / 16 / 16 / 16 / 16 / 16 % 16) + (zpc (A / 16 / 16 / 16 / 16 / 16 / 16 / 16 / 16 / 16 / 16 % 16) + (zpc (A / 16 / 16 / 16 / 16 / 16 / 16 / 16 / 16 / 16 / 16 / 16 % 16) + (zpc (A / 16 / 16 / 16 / 16 / 16 / 16 / 16 / 16 / 16 / 16 / 16 / 16 % 16) + (zpc (A / 16 / 16 / 16 / 16 / 16 / 16 / 16 / 16 / 16 / 16 / 16 / 16 / 16 % 16) + (zpc (A / 16 / 16 / 16 / 16 / 16 / 16 / 16 / 16 / 16 / 16 / 16 / 16 / 16 / 16 % 16) + (zpc (A / 16 / 16 / 16 / 16 / 16 / 16 / 16 / 16 / 16 / 16 / 16 / 16 / 16 / 16 / 16 % 16) + 0))))))))))))))) = _
    simp only [Nat.add_assoc, Nat.add_zero]
  have k0 := g A
  have k1 := g (A / 16)
  have k2 := g (A / 16 / 16)
  have k3 := g (A / 16 / 16 / 16)
  have k4 := g (A / 16 / 16 / 16 / 16)
  have k5 := g (A / 16 / 16 / 16 / 16 / 16)
  have k6 := g (A / 16 / 16 / 16 / 16 / 16 / 16)
  have k7 := g (A / 16 / 16 / 16 / 16 / 16 / 16 / 16)
  have k8 := g (A / 16 / 16 / 16 / 16 / 16 / 16 / 16 / 16)
  have k9 := g (A / 16 / 16 / 16 / 16 / 16 / 16 / 16 / 16 / 16)
  have k10 := g (A / 16 / 16 / 16 / 16 / 16 / 16 / 16 / 16 / 16 / 16)
  have k11 := g (A / 16 / 16 / 16 / 16 / 16 / 16 / 16 / 16 / 16 / 16 / 16)
  have k12 := g (A / 16 / 16 / 16 / 16 / 16 / 16 / 16 / 16 / 16 / 16 / 16 / 16)
  have k13 := g (A / 16 / 16 / 16 / 16 / 16 / 16 / 16 / 16 / 16 / 16 / 16 / 16 / 16)
  have k14 := g (A / 16 / 16 / 16 / 16 / 16 / 16 / 16 / 16 / 16 / 16 / 16 / 16 / 16 / 16)
  have k15 := g (A / 16 / 16 / 16 / 16 / 16 / 16 / 16 / 16 / 16 / 16 / 16 / 16 / 16 / 16 / 16)
  have xJ : z_J ((zp1 16 A : Nat) : Int) := ⟨by omega, by omega⟩
  have z2J : z_J ((zp2 16 A : Nat) : Int) := ⟨by omega, by omega⟩
  have yJ : z_J (((zp2 16 A : Nat) : Int) + ((zp2 16 A : Nat) : Int) / 16) := ⟨by omega, by omega⟩
  have z2n : (0 : Int) ≤ ((zp2 16 A : Nat) : Int) + ((zp2 16 A : Nat) : Int) / 16 := by omega
  have z2p : (0 : Int) ≤ ((zp2 16 A : Nat) : Int) := by omega
  have i1 : (0 : Int) ≤ (A : Int) / 2 := by omega
  have i2 : (0 : Int) ≤ ((zp1 16 A : Nat) : Int) := by omega
  have i3 : (0 : Int) ≤ ((zp1 16 A : Nat) : Int) / 4 := by omega
  rw [zp3_0] at u0
  rw [hs] at hk
  clear hs e1 e2 f1 f2 a2 l5 g eT sm x3 e3 eZ lt2 b1 hb p16
  generalize zpc (A / 16 / 16 / 16 / 16 / 16 / 16 / 16 / 16 / 16 / 16 / 16 / 16 / 16 / 16 / 16 % 16) = p15 at *
  generalize zpc (A / 16 / 16 / 16 / 16 / 16 / 16 / 16 / 16 / 16 / 16 / 16 / 16 / 16 / 16 % 16) = p14 at *
  generalize zpc (A / 16 / 16 / 16 / 16 / 16 / 16 / 16 / 16 / 16 / 16 / 16 / 16 / 16 % 16) = p13 at *
  generalize zpc (A / 16 / 16 / 16 / 16 / 16 / 16 / 16 / 16 / 16 / 16 / 16 / 16 % 16) = p12 at *
  generalize zpc (A / 16 / 16 / 16 / 16 / 16 / 16 / 16 / 16 / 16 / 16 / 16 % 16) = p11 at *
  generalize zpc (A / 16 / 16 / 16 / 16 / 16 / 16 / 16 / 16 / 16 / 16 % 16) = p10 at *
  generalize zpc (A / 16 / 16 / 16 / 16 / 16 / 16 / 16 / 16 / 16 % 16) = p9 at *
  generalize zpc (A / 16 / 16 / 16 / 16 / 16 / 16 / 16 / 16 % 16) = p8 at *
  generalize zpc (A / 16 / 16 / 16 / 16 / 16 / 16 / 16 % 16) = p7 at *
  generalize zpc (A / 16 / 16 / 16 / 16 / 16 / 16 % 16) = p6 at *
  generalize zpc (A / 16 / 16 / 16 / 16 / 16 % 16) = p5 at *
  generalize zpc (A / 16 / 16 / 16 / 16 % 16) = p4 at *
  generalize zpc (A / 16 / 16 / 16 % 16) = p3 at *
  generalize zpc (A / 16 / 16 % 16) = p2 at *
  generalize zpc (A / 16 % 16) = p1 at *
  generalize zpc (A % 16) = p0 at *
  have fo := zfold ((p0 + p1 : Nat) : Int) ((p2 + p3 : Nat) : Int) ((p4 + p5 : Nat) : Int) ((p6 + p7 : Nat) : Int) ((p8 + p9 : Nat) : Int) ((p10 + p11 : Nat) : Int) ((p12 + p13 : Nat) : Int) ((p14 + p15 : Nat) : Int) _ _ _ _ _ _ ((zp3 8 (zp2 16 A) : Nat) : Int) (by omega) (by omega) (by omega) (by omega) (by omega) (by omega) (by omega) (by omega) rfl rfl rfl rfl rfl rfl (by
    have v7 : zp3 8 (zp2 16 A) = p0 + p1 + 256 * zp3 7 (zp2 14 (A / 16 / 16)) := u7
    have v6 : zp3 7 (zp2 14 (A / 16 / 16)) = p2 + p3 + 256 * zp3 6 (zp2 12 (A / 16 / 16 / 16 / 16)) := u6
    have v5 : zp3 6 (zp2 12 (A / 16 / 16 / 16 / 16)) = p4 + p5 + 256 * zp3 5 (zp2 10 (A / 16 / 16 / 16 / 16 / 16 / 16)) := u5
    have v4 : zp3 5 (zp2 10 (A / 16 / 16 / 16 / 16 / 16 / 16)) = p6 + p7 + 256 * zp3 4 (zp2 8 (A / 16 / 16 / 16 / 16 / 16 / 16 / 16 / 16)) := u4
    have v3 : zp3 4 (zp2 8 (A / 16 / 16 / 16 / 16 / 16 / 16 / 16 / 16)) = p8 + p9 + 256 * zp3 3 (zp2 6 (A / 16 / 16 / 16 / 16 / 16 / 16 / 16 / 16 / 16 / 16)) := u3
    have v2 : zp3 3 (zp2 6 (A / 16 / 16 / 16 / 16 / 16 / 16 / 16 / 16 / 16 / 16)) = p10 + p11 + 256 * zp3 2 (zp2 4 (A / 16 / 16 / 16 / 16 / 16 / 16 / 16 / 16 / 16 / 16 / 16 / 16)) := u2
    have v1 : zp3 2 (zp2 4 (A / 16 / 16 / 16 / 16 / 16 / 16 / 16 / 16 / 16 / 16 / 16 / 16)) = p12 + p13 + 256 * zp3 1 (zp2 2 (A / 16 / 16 / 16 / 16 / 16 / 16 / 16 / 16 / 16 / 16 / 16 / 16 / 16 / 16)) := u1
    have v0 : zp3 1 (zp2 2 (A / 16 / 16 / 16 / 16 / 16 / 16 / 16 / 16 / 16 / 16 / 16 / 16 / 16 / 16)) = p14 + p15 := u0
    rw [v7, v6, v5, v4, v3, v2, v1, v0]
    clear v7 v6 v5 v4 v3 v2 v1 v0 u7 u6 u5 u4 u3 u2 u1 u0 k0 k1 k2 k3 k4 k5 k6 k7 k8 k9 k10 k11 k12 k13 k14 k15 xJ z2J yJ z2n z2p i1 i2 i3 nn
    simp only [Int.natCast_add, Int.natCast_mul]
    rfl)
  obtain ⟨w1, w2, w3, w4, w5, w6, w7⟩ := fo
  have w7' : ((p0 + p1 + (p2 + p3 + (p4 + p5 + (p6 + p7 + (p8 + p9 + (p10 + p11 + (p12 + p13 + (p14 + p15))))))) : Nat) : Int) = ((p0 + p1 : Nat) : Int) + (p2 + p3 : Nat) + (p4 + p5 : Nat) + (p6 + p7 : Nat) + (p8 + p9 : Nat) + (p10 + p11 : Nat) + (p12 + p13 : Nat) + (p14 + p15 : Nat) := by
    clear w1 w2 w3 w4 w5 w6 w7 u7 u6 u5 u4 u3 u2 u1 u0 xJ z2J yJ z2n z2p i1 i2 i3 nn
    omega
  rw [w7', ← w7] at hk
  exact ⟨nn, ⟨i1, by decide⟩, xJ, ⟨i2, by decide⟩, i2, ⟨i3, by decide⟩, z2J, z2p, yJ, ⟨z2n, by decide⟩, w1, w2, w3, w4, w5, w6, hk⟩
theorem zbt_cast {v e : Int} (hv : 0 ≤ v) : zbt ((v.toNat : Nat) : Int) e = zbt v e := by
  rw [show ((v.toNat : Nat) : Int) = v by omega]
/-- how many HINGES -/
def zhm (H : Int → Bool) : Int := zN 60 H
theorem e_howMany (ho : z_kd o = 3) (hb : zHb (μ o 0) H) (hk : K (zhm H) μ) : z_ci m_X3_howMany [(2, o)] μ (d + 1) K := by
  refine V_X3_howMany ho ?_
  have h0 := hb.1.1
  have h1 := hb.1.2
  have e : μ o 0 = (((μ o 0).toNat : Nat) : Int) := by omega
  rw [e]
  refine e_bitCount (μ o 0).toNat (by omega) ?_
  rw [← e]
  have : zN 60 (zbt (μ o 0)) = zhm H := zN_eq 60 (fun i i0 i1 => hb.2 i i0)
  rw [this]
  exact hk
end BC

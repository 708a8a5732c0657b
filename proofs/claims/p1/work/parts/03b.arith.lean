theorem z_i32 {x : Int} (h : z_I x) : (Int32.ofInt x).toInt = x := Int32.toInt_ofInt_of_le (by have := h.1; omega) (by have := h.2; omega)
theorem z_i64 {x : Int} (h : z_J x) : (Int64.ofInt x).toInt = x := Int64.toInt_ofInt_of_le (by have := h.1; omega) (by have := h.2; omega)
theorem z_clamp {x : Int} (h : z_I x) : (Int32.ofInt x).toNatClampNeg = x.toNat := by
  show (Int32.ofInt x).toInt.toNat = x.toNat
  rw [z_i32 h]
theorem z_lt32 {a b : Int} (ha : z_I a) (hb : z_I b) : Int32.ofInt a < Int32.ofInt b ↔ a < b := by
  rw [Int32.lt_iff_toInt_lt, z_i32 ha, z_i32 hb]
theorem z_le32 {a b : Int} (ha : z_I a) (hb : z_I b) : Int32.ofInt a ≤ Int32.ofInt b ↔ a ≤ b := by
  rw [Int32.le_iff_toInt_le, z_i32 ha, z_i32 hb]
theorem z_eq32 {a b : Int} (ha : z_I a) (hb : z_I b) : Int32.ofInt a = Int32.ofInt b ↔ a = b := by
  rw [← Int32.toInt_inj, z_i32 ha, z_i32 hb]
theorem z_lt64 {a b : Int} (ha : z_J a) (hb : z_J b) : Int64.ofInt a < Int64.ofInt b ↔ a < b := by
  rw [Int64.lt_iff_toInt_lt, z_i64 ha, z_i64 hb]
theorem z_eq64 {a b : Int} (ha : z_J a) (hb : z_J b) : Int64.ofInt a = Int64.ofInt b ↔ a = b := by
  rw [← Int64.toInt_inj, z_i64 ha, z_i64 hb]
theorem z_I0 : z_I 0 := ⟨by decide, by decide⟩
theorem z_0_32 : Int32.ofInt 0 = 0 := rfl
theorem z_in {x : Int} {n : Nat} (h : z_I x) (h0 : 0 ≤ x) (h1 : x < n) : vp_in (Int32.ofInt x) n := by
  rw [vp_in_iff, z_i32 h]
  exact ⟨h0, h1⟩
theorem z_div32 {a b : Int} (ha : z_I a) (hb : z_I b) (h0 : 0 ≤ a) (h1 : 0 < b) : Int32.ofInt a / Int32.ofInt b = Int32.ofInt (a / b) := by
  have hq : a / b ≤ a := Int.ediv_le_self b h0
  have hq0 : 0 ≤ a / b := Int.ediv_nonneg h0 (by omega)
  have hz : z_I (a / b) := ⟨by omega, by have := ha.2; omega⟩
  rw [← Int32.toInt_inj, Int32.toInt_div, z_i32 ha, z_i32 hb, z_i32 hz, Int.tdiv_eq_ediv_of_nonneg h0]
  exact Int.bmod_eq_of_le (by have := hz.1; omega) (by have := hz.2; omega)
theorem z_rem32 {a b : Int} (ha : z_I a) (hb : z_I b) (h0 : 0 ≤ a) (h1 : 0 < b) : Int32.ofInt a - Int32.ofInt a / Int32.ofInt b * Int32.ofInt b = Int32.ofInt (a % b) := by
  rw [z_div32 ha hb h0 h1, ← Int32.ofInt_mul, ← Int32.ofInt_sub]
  congr 1
  have := Int.emod_def a b
  rw [this, Int.mul_comm]
theorem z_bv32 (x : Int) : (Int32.ofInt x).toBitVec = BitVec.ofInt 32 x := rfl
theorem z_bv64 (x : Int) : (Int64.ofInt x).toBitVec = BitVec.ofInt 64 x := rfl
/-- a mask of k ones -/
theorem z_mask32 (x : Int) (k : Nat) (hk : k ≤ 30) {m : Int} (hm : m = 2 ^ k - 1) : Int32.ofInt x &&& Int32.ofInt m = Int32.ofInt (x % 2 ^ k) := by
  subst hm
  apply Int32.toBitVec_inj.mp
  rw [Int32.toBitVec_and, z_bv32, z_bv32, z_bv32]
  have h2 : (2 : Int) ^ k = ((2 ^ k : Nat) : Int) := by simp
  have hk2 : (2 : Nat) ^ k ≤ 2 ^ 30 := Nat.pow_le_pow_right (by decide) hk
  have hpos : 0 < (2 : Nat) ^ k := Nat.two_pow_pos k
  apply BitVec.eq_of_toNat_eq
  rw [BitVec.toNat_and, BitVec.toNat_ofInt, BitVec.toNat_ofInt, BitVec.toNat_ofInt]
  have e1 : (((2 : Int) ^ k - 1) % ((2 ^ 32 : Nat) : Int)).toNat = 2 ^ k - 1 := by
    rw [h2]
    rw [Int.emod_eq_of_lt (by omega) (by omega)]
    omega
  rw [e1, Nat.and_two_pow_sub_one_eq_mod]
  have e2 : (x % 2 ^ k) % ((2 ^ 32 : Nat) : Int) = x % 2 ^ k := by
    rw [h2]
    apply Int.emod_eq_of_lt (Int.emod_nonneg _ (by omega))
    have := Int.emod_lt_of_pos x (show (0 : Int) < ((2 ^ k : Nat) : Int) by omega)
    omega
  rw [e2, h2]
  have hd : ((2 ^ k : Nat) : Int) ∣ ((2 ^ 32 : Nat) : Int) := Int.natCast_dvd_natCast.mpr (Nat.pow_dvd_pow 2 (by omega))
  apply Int.ofNat_inj.mp
  rw [Int.natCast_emod, Int.toNat_of_nonneg (Int.emod_nonneg _ (by decide)), Int.toNat_of_nonneg (Int.emod_nonneg _ (by omega)), Int.emod_emod_of_dvd _ hd]
-- from kit/laws/BITS.to-paste: lN by its bits
theorem wb_tb (n : Nat) : (lN n).toBitVec = BitVec.ofNat 64 n := rfl
theorem wb_inj {a b : Int64} (h : a.toBitVec = b.toBitVec) : a = b := Int64.toBitVec_inj.mp h
theorem wb_tn {n : Nat} (h : n < 2 ^ 64) : (lN n).toBitVec.toNat = n := by rw [wb_tb, BitVec.toNat_ofNat, Nat.mod_eq_of_lt h]
theorem wb_of (x : Int64) : ∃ n, n < 2 ^ 64 ∧ x = lN n := ⟨x.toBitVec.toNat, x.toBitVec.isLt, wb_inj (by rw [wb_tb]; simp)⟩
theorem wb_of32 (x : Int32) : ∃ n, n < 2 ^ 32 ∧ x = nI n := ⟨x.toBitVec.toNat, x.toBitVec.isLt, Int32.toBitVec_inj.mp (by show _ = BitVec.ofNat 32 _; simp)⟩
theorem wb_c : ∀ k, k < 64 → ((nI k).toInt64 &&& 63) = lN k := by decide +kernel
theorem wb_cu : ∀ k, k < 64 → ((nI k).toInt64.toUInt64 &&& Int64.toUInt64 63) = UInt64.ofNat k := by decide +kernel
theorem wb_sm : ∀ k, k < 64 → (BitVec.ofNat 64 k).smod 64 = BitVec.ofNat 64 k := by decide +kernel
theorem wb_pw {a b : Nat} (h : a ≤ b) : 2 ^ b = 2 ^ a * 2 ^ (b - a) := by rw [← Nat.pow_add]; congr 1; omega
theorem wb_lt2 {a b : Nat} (h : a < b) : 2 ^ a < 2 ^ b := Nat.pow_lt_pow_right (by decide) h
theorem wb_mod (n : Nat) : lN n = lN (n % 2 ^ 64) := wb_inj (by rw [wb_tb, wb_tb]; apply BitVec.eq_of_toNat_eq; rw [BitVec.toNat_ofNat, BitVec.toNat_ofNat, Nat.mod_mod])
theorem wb_shr {n k : Nat} (hn : n < 2 ^ 64) (hk : k < 64) : ((lN n).toUInt64 >>> ((nI k).toInt64.toUInt64 &&& Int64.toUInt64 63)).toInt64 = lN (n / 2 ^ k) := by
  rw [wb_cu k hk]
  apply wb_inj
  apply BitVec.eq_of_toNat_eq
  show ((lN n).toUInt64 >>> UInt64.ofNat k).toNat = (BitVec.ofNat 64 _).toNat
  have h1 : (UInt64.ofNat k).toNat = k := by
    show (BitVec.ofNat 64 k).toNat = k
    rw [BitVec.toNat_ofNat, Nat.mod_eq_of_lt (by omega)]
  have h2 : (lN n).toUInt64.toNat = n := wb_tn hn
  rw [UInt64.toNat_shiftRight, h1, h2, Nat.mod_eq_of_lt hk, Nat.shiftRight_eq_div_pow, BitVec.toNat_ofNat, Nat.mod_eq_of_lt (Nat.lt_of_le_of_lt (Nat.div_le_self _ _) hn)]
theorem wb_shl (n : Nat) {k : Nat} (hk : k < 64) : lN n <<< ((nI k).toInt64 &&& 63) = lN (n * 2 ^ k) := by
  rw [wb_c k hk]
  apply wb_inj
  rw [Int64.toBitVec_shiftLeft, wb_tb, wb_tb, wb_tb, wb_sm k hk]
  apply BitVec.eq_of_toNat_eq
  rw [BitVec.shiftLeft_eq', BitVec.toNat_shiftLeft, BitVec.toNat_ofNat, BitVec.toNat_ofNat, BitVec.toNat_ofNat, Nat.mod_eq_of_lt (show k < 2 ^ 64 by omega), Nat.shiftLeft_eq, Nat.mul_mod, Nat.mod_mod, ← Nat.mul_mod]
theorem wb_and {a b : Nat} (ha : a < 2 ^ 64) (hb : b < 2 ^ 64) : lN a &&& lN b = lN (a &&& b) := by
  apply wb_inj
  rw [Int64.toBitVec_and, wb_tb, wb_tb, wb_tb]
  apply BitVec.eq_of_toNat_eq
  rw [BitVec.toNat_and, BitVec.toNat_ofNat, BitVec.toNat_ofNat, BitVec.toNat_ofNat, Nat.mod_eq_of_lt ha, Nat.mod_eq_of_lt hb, Nat.mod_eq_of_lt (Nat.and_lt_two_pow _ hb)]
theorem wb_or {a b : Nat} (ha : a < 2 ^ 64) (hb : b < 2 ^ 64) : lN a ||| lN b = lN (a ||| b) := by
  apply wb_inj
  rw [Int64.toBitVec_or, wb_tb, wb_tb, wb_tb]
  apply BitVec.eq_of_toNat_eq
  rw [BitVec.toNat_or, BitVec.toNat_ofNat, BitVec.toNat_ofNat, BitVec.toNat_ofNat, Nat.mod_eq_of_lt ha, Nat.mod_eq_of_lt hb, Nat.mod_eq_of_lt (Nat.or_lt_two_pow ha hb)]
theorem wb_mask {n k : Nat} (hn : n < 2 ^ 64) (hk : k < 64) : lN n &&& lN (2 ^ k - 1) = lN (n % 2 ^ k) := by
  rw [wb_and hn (by have := wb_lt2 hk; omega), Nat.and_two_pow_sub_one_eq_mod]
theorem wb_a1 {n : Nat} (hn : n < 2 ^ 64) : lN n &&& 1 = lN (n % 2) := wb_mask (k := 1) hn (by decide)
theorem z_nat {x : Int} (h : 0 ≤ x) : ∃ n : Nat, x = n := ⟨x.toNat, by omega⟩
theorem z_ofN32 (n : Nat) : Int32.ofInt (n : Int) = nI n := Int32.ofInt_eq_ofNat
theorem z_ofN64 (n : Nat) : Int64.ofInt (n : Int) = lN n := Int64.ofInt_eq_ofNat
theorem z_and32 {a b : Nat} (ha : a < 2 ^ 32) (hb : b < 2 ^ 32) : nI a &&& nI b = nI (a &&& b) := by
  apply Int32.toBitVec_inj.mp
  rw [Int32.toBitVec_and]
  apply BitVec.eq_of_toNat_eq
  rw [BitVec.toNat_and, pk_tn ha, pk_tn hb, pk_tn (Nat.and_lt_two_pow _ hb)]
theorem z_or32 {a b : Nat} (ha : a < 2 ^ 32) (hb : b < 2 ^ 32) : nI a ||| nI b = nI (a ||| b) := by
  apply Int32.toBitVec_inj.mp
  rw [Int32.toBitVec_or]
  apply BitVec.eq_of_toNat_eq
  rw [BitVec.toNat_or, pk_tn ha, pk_tn hb, pk_tn (Nat.or_lt_two_pow ha hb)]
theorem z_xor32 {a b : Nat} (ha : a < 2 ^ 32) (hb : b < 2 ^ 32) : nI a ^^^ nI b = nI (a ^^^ b) := by
  apply Int32.toBitVec_inj.mp
  rw [Int32.toBitVec_xor]
  apply BitVec.eq_of_toNat_eq
  rw [BitVec.toNat_xor, pk_tn ha, pk_tn hb, pk_tn (Nat.xor_lt_two_pow ha hb)]
theorem z_not32 (x : Int) : Int32.ofInt x ^^^ Int32.ofInt (-1) = Int32.ofInt (-x - 1) := by
  have e : Int32.ofInt x ^^^ Int32.ofInt (-1) = ~~~ (Int32.ofInt x) := by
    apply Int32.toBitVec_inj.mp
    rw [Int32.toBitVec_xor, Int32.toBitVec_not]
    show _ ^^^ BitVec.allOnes 32 = _
    rw [BitVec.xor_allOnes]
  rw [e, Int32.not_eq_neg_add, Int32.ofInt_sub, Int32.ofInt_neg]
  rfl
theorem z_not64 (x : Int) : Int64.ofInt x ^^^ Int64.ofInt (-1) = Int64.ofInt (-x - 1) := by
  have e : Int64.ofInt x ^^^ Int64.ofInt (-1) = ~~~ (Int64.ofInt x) := by
    apply Int64.toBitVec_inj.mp
    rw [Int64.toBitVec_xor, Int64.toBitVec_not]
    show _ ^^^ BitVec.allOnes 64 = _
    rw [BitVec.xor_allOnes]
  rw [e, Int64.not_eq_neg_add, Int64.ofInt_sub, Int64.ofInt_neg]
  rfl
theorem z_xan (n : Nat) (a b : BitVec n) : a &&& ~~~b = a ^^^ (a &&& b) := by
  apply BitVec.eq_of_getLsbD_eq
  intro i hi
  simp only [BitVec.getLsbD_and, BitVec.getLsbD_xor, BitVec.getLsbD_not, hi, decide_true, Bool.true_and]
  cases a.getLsbD i <;> cases b.getLsbD i <;> rfl
theorem z_andn32 {a c : Nat} (ha : a < 2 ^ 31) (hc : c < 2 ^ 31) : Int32.ofInt (a : Int) &&& Int32.ofInt (-(c : Int) - 1) = Int32.ofInt ((a ^^^ (a &&& c) : Nat) : Int) := by
  rw [← z_not32 (c : Int), z_ofN32, z_ofN32, z_ofN32]
  apply Int32.toBitVec_inj.mp
  rw [Int32.toBitVec_and, Int32.toBitVec_xor]
  show (nI a).toBitVec &&& ((nI c).toBitVec ^^^ BitVec.allOnes 32) = _
  rw [BitVec.xor_allOnes, z_xan]
  apply BitVec.eq_of_toNat_eq
  have hx : a ^^^ (a &&& c) < 2 ^ 32 := Nat.xor_lt_two_pow (by omega) (Nat.and_lt_two_pow _ (by omega))
  rw [BitVec.toNat_xor, BitVec.toNat_and, pk_tn (by omega), pk_tn (by omega), pk_tn hx]
theorem z_andn64 {a c : Nat} (ha : a < 2 ^ 63) (hc : c < 2 ^ 63) : Int64.ofInt (a : Int) &&& Int64.ofInt (-(c : Int) - 1) = Int64.ofInt ((a ^^^ (a &&& c) : Nat) : Int) := by
  rw [← z_not64 (c : Int), z_ofN64, z_ofN64, z_ofN64]
  apply Int64.toBitVec_inj.mp
  rw [Int64.toBitVec_and, Int64.toBitVec_xor]
  show (lN a).toBitVec &&& ((lN c).toBitVec ^^^ BitVec.allOnes 64) = _
  rw [BitVec.xor_allOnes, z_xan]
  apply BitVec.eq_of_toNat_eq
  have hx : a ^^^ (a &&& c) < 2 ^ 64 := Nat.xor_lt_two_pow (by omega) (Nat.and_lt_two_pow _ (by omega))
  rw [BitVec.toNat_xor, BitVec.toNat_and, wb_tn (by omega), wb_tn (by omega), wb_tn hx]
theorem z_sm32 : ∀ k, k < 32 → ((nI k &&& 31).toBitVec.smod 32).toNat = k := by decide +kernel
theorem z_um32 : ∀ k, k < 32 → (((nI k).toUInt32 &&& Int32.toUInt32 31).toBitVec % 32).toNat = k := by decide +kernel
theorem z_shl32 {x s : Int} (h0 : 0 ≤ s) (h1 : s < 32) : Int32.ofInt x <<< (Int32.ofInt s &&& 31) = Int32.ofInt (x * 2 ^ s.toNat) := by
  obtain ⟨k, rfl⟩ := z_nat h0
  rw [z_ofN32, Int.toNat_natCast]
  apply Int32.toBitVec_inj.mp
  show (Int32.ofInt x).toBitVec <<< (((nI k &&& 31).toBitVec.smod 32).toNat) = _
  rw [z_sm32 k (by omega), z_bv32, z_bv32, BitVec.shiftLeft_eq_mul_twoPow, BitVec.ofInt_mul]
  congr 1
  apply BitVec.eq_of_toNat_eq
  rw [BitVec.toNat_twoPow, BitVec.toNat_ofInt]
  have h2 : (2 : Int) ^ k = ((2 ^ k : Nat) : Int) := by simp
  rw [h2]
  omega
theorem z_shr32 {x s : Int} (hx : z_I x) (h0 : 0 ≤ s) (h1 : s < 32) : Int32.ofInt x >>> (Int32.ofInt s &&& 31) = Int32.ofInt (x / 2 ^ s.toNat) := by
  obtain ⟨k, rfl⟩ := z_nat h0
  rw [z_ofN32, Int.toNat_natCast, ← Int32.toInt_inj, pk_shr _ _ k (z_sm32 k (by omega)), z_i32 hx, Int.shiftRight_eq_div_pow]
  have h2 : (2 : Int) ^ k = ((2 ^ k : Nat) : Int) := by simp
  rw [h2]
  have hp : (0 : Int) < ((2 ^ k : Nat) : Int) := by have := Nat.two_pow_pos k; omega
  have hz : z_I (x / ((2 ^ k : Nat) : Int)) := by
    have hx1 := hx.1
    have hx2 := hx.2
    refine ⟨?_, ?_⟩
    · rw [Int.le_ediv_iff_mul_le hp]
      have : (1 : Int) ≤ ((2 ^ k : Nat) : Int) := by omega
      have := Int.mul_le_mul_of_nonneg_left this (show (0 : Int) ≤ 2147483648 by decide)
      omega
    · have : x / ((2 ^ k : Nat) : Int) ≤ 2147483647 := by
        apply Int.ediv_le_of_le_mul hp
        have : (1 : Int) ≤ ((2 ^ k : Nat) : Int) := by omega
        have := Int.mul_le_mul_of_nonneg_left this (show (0 : Int) ≤ 2147483647 by decide)
        omega
      exact this
  rw [z_i32 hz]
theorem z_ushr32 {x s : Int} (hx : z_I x) (h00 : 0 ≤ x) (h0 : 0 ≤ s) (h1 : s < 32) : ((Int32.ofInt x).toUInt32 >>> ((Int32.ofInt s).toUInt32 &&& Int32.toUInt32 31)).toInt32 = Int32.ofInt (x / 2 ^ s.toNat) := by
  obtain ⟨k, rfl⟩ := z_nat h0
  obtain ⟨n, rfl⟩ := z_nat h00
  have h2 : (2 : Int) ^ k = ((2 ^ k : Nat) : Int) := by simp
  have hn : n < 2 ^ 32 := by have := hx.2; omega
  rw [z_ofN32, z_ofN32, Int.toNat_natCast, pk_ushrN hn _ k (z_um32 k (by omega)), h2, ← Int.natCast_ediv, z_ofN32]
theorem z_ushr32g {x s : Int} (hx : z_I x) (h0 : 0 ≤ s) (h1 : s < 32) : ((Int32.ofInt x).toUInt32 >>> ((Int32.ofInt s).toUInt32 &&& Int32.toUInt32 31)).toInt32 = Int32.ofInt (x % 4294967296 / 2 ^ s.toNat) := by
  obtain ⟨k, rfl⟩ := z_nat h0
  have hy : 0 ≤ x % 4294967296 := Int.emod_nonneg _ (by decide)
  have hy2 : x % 4294967296 < 4294967296 := Int.emod_lt_of_pos _ (by decide)
  have e : Int32.ofInt x = nI (x % 4294967296).toNat := by
    apply Int32.toBitVec_inj.mp
    apply BitVec.eq_of_toNat_eq
    rw [pk_tn (by omega), z_bv32, BitVec.toNat_ofInt]
    rfl
  have h2 : (2 : Int) ^ k = ((2 ^ k : Nat) : Int) := by simp
  rw [e, z_ofN32, Int.toNat_natCast, pk_ushrN (by omega) _ k (z_um32 k (by omega)), ← z_ofN32]
  congr 1
  rw [h2, Int.natCast_ediv, Int.toNat_of_nonneg hy]
theorem z_shl64 {x s : Int} (hx : 0 ≤ x) (h0 : 0 ≤ s) (h1 : s < 64) : Int64.ofInt x <<< ((Int32.ofInt s).toInt64 &&& 63) = Int64.ofInt (x * 2 ^ s.toNat) := by
  obtain ⟨k, rfl⟩ := z_nat h0
  obtain ⟨n, rfl⟩ := z_nat hx
  have h2 : (2 : Int) ^ k = ((2 ^ k : Nat) : Int) := by simp
  rw [z_ofN32, z_ofN64, Int.toNat_natCast, wb_shl n (by omega), h2, ← Int.natCast_mul, z_ofN64]
theorem z_ushr64 {x s : Int} (hx : z_J x) (h00 : 0 ≤ x) (h0 : 0 ≤ s) (h1 : s < 64) : ((Int64.ofInt x).toUInt64 >>> ((Int32.ofInt s).toInt64.toUInt64 &&& Int64.toUInt64 63)).toInt64 = Int64.ofInt (x / 2 ^ s.toNat) := by
  obtain ⟨k, rfl⟩ := z_nat h0
  obtain ⟨n, rfl⟩ := z_nat h00
  have h2 : (2 : Int) ^ k = ((2 ^ k : Nat) : Int) := by simp
  have hn : n < 2 ^ 64 := by have := hx.2; omega
  rw [z_ofN32, z_ofN64, Int.toNat_natCast, wb_shr hn (by omega), h2, ← Int.natCast_ediv, z_ofN64]
theorem z_i2l {x : Int} (hx : z_I x) : (Int32.ofInt x).toInt64 = Int64.ofInt x := by
  apply Int64.toInt_inj.mp
  rw [Int32.toInt_toInt64, z_i32 hx, z_i64 ⟨by have := hx.1; omega, by have := hx.2; omega⟩]
theorem z_l2i (x : Int) : (Int64.ofInt x).toInt32 = Int32.ofInt (Int.bmod x 4294967296) := by
  apply Int32.toInt_inj.mp
  rw [Int64.toInt_toInt32, Int64.toInt_ofInt, Int32.toInt_ofInt]
  rw [show Int64.size = 2 ^ 64 from rfl, show Int32.size = 2 ^ 32 from rfl, show (4294967296 : Nat) = 2 ^ 32 from rfl]
  rw [Int.bmod_bmod_of_dvd (Nat.pow_dvd_pow 2 (by decide)), Int.bmod_bmod]
theorem z_i2b {x : Int} (hx : z_I x) : (Int32.ofInt x).toInt8.toInt32 = Int32.ofInt (Int.bmod x 256) := by
  apply Int32.toInt_inj.mp
  rw [Int8.toInt_toInt32, Int32.toInt_toInt8, z_i32 hx, Int32.toInt_ofInt]
  have h1 := Int.le_bmod (x := x) (m := 256) (by decide)
  have h2 := Int.bmod_lt (x := x) (m := 256) (by decide)
  symm
  exact Int.bmod_eq_of_le (by show -(2 ^ 31 : Int) ≤ _; omega) (by show _ < (2 ^ 31 : Int); omega)

theorem z_shrI {a : Int} {k : Nat} (h : z_I a) : z_I (a / 2 ^ k) := by
  have h2 : (2 : Int) ^ k = ((2 ^ k : Nat) : Int) := by simp
  rw [h2]
  have hp : (0 : Int) < ((2 ^ k : Nat) : Int) := by have := Nat.two_pow_pos k; omega
  have h1 : (1 : Int) ≤ ((2 ^ k : Nat) : Int) := by omega
  refine ⟨?_, ?_⟩
  · rw [Int.le_ediv_iff_mul_le hp]
    have := Int.mul_le_mul_of_nonneg_left h1 (show (0 : Int) ≤ 2147483648 by decide)
    have := h.1
    omega
  · apply Int.ediv_le_of_le_mul hp
    have := Int.mul_le_mul_of_nonneg_left h1 (show (0 : Int) ≤ 2147483647 by decide)
    have := h.2
    omega
theorem z_shrJ {a : Int} {k : Nat} (h : z_J a) (h0 : 0 ≤ a) : z_J (a / 2 ^ k) := by
  have h2 : (2 : Int) ^ k = ((2 ^ k : Nat) : Int) := by simp
  rw [h2]
  have hp : (0 : Int) ≤ ((2 ^ k : Nat) : Int) := Int.natCast_nonneg _
  have h3 := Int.ediv_nonneg h0 hp
  have h4 := Int.ediv_le_self ((2 ^ k : Nat) : Int) h0
  have := h.2
  exact ⟨by omega, by omega⟩
theorem z_wI (x : Int) : z_I (Int.bmod x 4294967296) := by
  have h1 := Int.le_bmod (x := x) (m := 4294967296) (by decide)
  have h2 := Int.bmod_lt (x := x) (m := 4294967296) (by decide)
  exact ⟨by omega, by omega⟩
theorem z_wJ (x : Int) : z_J (Int.bmod x 18446744073709551616) := by
  have h1 := Int.le_bmod (x := x) (m := 18446744073709551616) (by decide)
  have h2 := Int.bmod_lt (x := x) (m := 18446744073709551616) (by decide)
  exact ⟨by omega, by omega⟩
theorem z_w64 (x : Int) : Int64.ofInt (Int.bmod x 18446744073709551616) = Int64.ofInt x := by
  apply Int64.toInt_inj.mp
  rw [Int64.toInt_ofInt, Int64.toInt_ofInt]
  exact Int.bmod_bmod
section ZS
variable {M : z_M} {pc : Nat} {lo lo' : List (Option z_V)} {sk : List z_V} {w : z_W} {μ : z_Mem} {d : Nat} {Q : Option z_V → z_Mem → Prop} {a b x y : Int}
theorem z_iadd (hd : decode M.2.1 pc = .ok (.iadd, 1)) (hs : z_I (a + b)) (h : z_R M (pc + 1) lo ((0, a + b) :: sk) w μ d Q) : z_R M pc lo ((0, b) :: (0, a) :: sk) w μ d Q := by
  intro p l e R s m args below meth c H locs cells slots D cy ad A ls hC hG hr hh hl ha hb hk
  obtain ⟨hb1, ha1, ha⟩ := ha
  have h1 := h p l e R s m args below meth c H locs cells slots D cy ad A ls hC hG hr hh hl ⟨hs, ha⟩ hb hk
  rw [List.map_cons, show z_val ad (0, a + b) = .int (Int32.ofInt a + Int32.ofInt b) from congrArg Value.int (Int32.ofInt_add a b)] at h1
  exact lv_iadd hC.1 hC.2.1 hd h1
theorem z_isub (hd : decode M.2.1 pc = .ok (.isub, 1)) (hs : z_I (a - b)) (h : z_R M (pc + 1) lo ((0, a - b) :: sk) w μ d Q) : z_R M pc lo ((0, b) :: (0, a) :: sk) w μ d Q := by
  intro p l e R s m args below meth c H locs cells slots D cy ad A ls hC hG hr hh hl ha hb hk
  obtain ⟨hb1, ha1, ha⟩ := ha
  have h1 := h p l e R s m args below meth c H locs cells slots D cy ad A ls hC hG hr hh hl ⟨hs, ha⟩ hb hk
  rw [List.map_cons, show z_val ad (0, a - b) = .int (Int32.ofInt a - Int32.ofInt b) from congrArg Value.int (Int32.ofInt_sub a b)] at h1
  exact lv_isub hC.1 hC.2.1 hd h1
theorem z_imul (hd : decode M.2.1 pc = .ok (.imul, 1)) (hs : z_I (a * b)) (h : z_R M (pc + 1) lo ((0, a * b) :: sk) w μ d Q) : z_R M pc lo ((0, b) :: (0, a) :: sk) w μ d Q := by
  intro p l e R s m args below meth c H locs cells slots D cy ad A ls hC hG hr hh hl ha hb hk
  obtain ⟨hb1, ha1, ha⟩ := ha
  have h1 := h p l e R s m args below meth c H locs cells slots D cy ad A ls hC hG hr hh hl ⟨hs, ha⟩ hb hk
  rw [List.map_cons, show z_val ad (0, a * b) = .int (Int32.ofInt a * Int32.ofInt b) from congrArg Value.int (Int32.ofInt_mul a b)] at h1
  exact lv_imul hC.1 hC.2.1 hd h1
theorem z_idiv (hd : decode M.2.1 pc = .ok (.idiv, 1)) (h0 : 0 ≤ a) (h2 : 0 < b) (h : z_R M (pc + 1) lo ((0, a / b) :: sk) w μ d Q) : z_R M pc lo ((0, b) :: (0, a) :: sk) w μ d Q := by
  intro p l e R s m args below meth c H locs cells slots D cy ad A ls hC hG hr hh hl ha hb hk
  obtain ⟨hb1, ha1, ha⟩ := ha
  have hz : z_I (a / b) := ⟨by have := Int.ediv_nonneg h0 (show 0 ≤ b by omega); omega, by have := Int.ediv_le_self b h0; have := ha1.2; show a / b ≤ _; simp only at this; omega⟩
  have hne : ¬ b = 0 := by omega
  have h1 := h p l e R s m args below meth c H locs cells slots D cy ad A ls hC hG hr hh hl ⟨hz, ha⟩ hb hk
  rw [List.map_cons, show z_val ad (0, a / b) = .int (Int32.ofInt a / Int32.ofInt b) from congrArg Value.int (z_div32 ha1 hb1 h0 h2).symm] at h1
  exact lv_idiv hC.1 hC.2.1 hd (fun q => hne ((z_eq32 hb1 z_I0).mp q)) h1
theorem z_irem (hd : decode M.2.1 pc = .ok (.irem, 1)) (h0 : 0 ≤ a) (h2 : 0 < b) (h : z_R M (pc + 1) lo ((0, a % b) :: sk) w μ d Q) : z_R M pc lo ((0, b) :: (0, a) :: sk) w μ d Q := by
  intro p l e R s m args below meth c H locs cells slots D cy ad A ls hC hG hr hh hl ha hb hk
  obtain ⟨hb1, ha1, ha⟩ := ha
  have hz : z_I (a % b) := ⟨by have := Int.emod_nonneg a (show b ≠ 0 by omega); omega, by have := Int.emod_lt_of_pos a h2; have := hb1.2; show a % b ≤ _; simp only at this; omega⟩
  have hne : ¬ b = 0 := by omega
  have h1 := h p l e R s m args below meth c H locs cells slots D cy ad A ls hC hG hr hh hl ⟨hz, ha⟩ hb hk
  rw [List.map_cons, show z_val ad (0, a % b) = .int (Int32.ofInt a - Int32.ofInt a / Int32.ofInt b * Int32.ofInt b) from congrArg Value.int (z_rem32 ha1 hb1 h0 h2).symm] at h1
  exact lv_irem hC.1 hC.2.1 hd (fun q => hne ((z_eq32 hb1 z_I0).mp q)) h1
theorem z_iandm (hd : decode M.2.1 pc = .ok (.iand, 1)) (k : Nat) (hk30 : k ≤ 30) (hm : b = 2 ^ k - 1) (h : z_R M (pc + 1) lo ((0, a % 2 ^ k) :: sk) w μ d Q) : z_R M pc lo ((0, b) :: (0, a) :: sk) w μ d Q := by
  intro p l e R s m args below meth c H locs cells slots D cy ad A ls hC hG hr hh hl ha hb hk
  obtain ⟨hb1, ha1, ha⟩ := ha
  have h2 : (2 : Int) ^ k = ((2 ^ k : Nat) : Int) := by simp
  have hk2 : (2 : Nat) ^ k ≤ 2 ^ 30 := Nat.pow_le_pow_right (by decide) hk30
  have hpos : 0 < (2 : Nat) ^ k := Nat.two_pow_pos k
  have hz : z_I (a % 2 ^ k) := by
    rw [h2]
    exact ⟨by have := Int.emod_nonneg a (show ((2 ^ k : Nat) : Int) ≠ 0 by omega); omega, by have := Int.emod_lt_of_pos a (show (0 : Int) < ((2 ^ k : Nat) : Int) by omega); omega⟩
  have h1 := h p l e R s m args below meth c H locs cells slots D cy ad A ls hC hG hr hh hl ⟨hz, ha⟩ hb hk
  rw [List.map_cons, show z_val ad (0, a % 2 ^ k) = .int (Int32.ofInt a &&& Int32.ofInt b) from congrArg Value.int (z_mask32 a k hk30 hm).symm] at h1
  exact lv_iand hC.1 hC.2.1 hd h1
theorem z_iand (hd : decode M.2.1 pc = .ok (.iand, 1)) (h0 : 0 ≤ a) (h2 : 0 ≤ b) (h : z_R M (pc + 1) lo ((0, ((a.toNat &&& b.toNat : Nat) : Int)) :: sk) w μ d Q) : z_R M pc lo ((0, b) :: (0, a) :: sk) w μ d Q := by
  intro p l e R s m args below meth c H locs cells slots D cy ad A ls hC hG hr hh hl ha hb hk
  obtain ⟨hb1, ha1, ha⟩ := ha
  obtain ⟨n1, rfl⟩ := z_nat h0
  obtain ⟨n2, rfl⟩ := z_nat h2
  have q1 : n1 < 2 ^ 31 := by have := ha1.2; simp only at this; omega
  have q2 : n2 < 2 ^ 31 := by have := hb1.2; simp only at this; omega
  have hz : z_I ((((n1 : Int).toNat &&& (n2 : Int).toNat : Nat)) : Int) := by
    rw [Int.toNat_natCast, Int.toNat_natCast]
    have : (n1 &&& n2) < 2 ^ 31 := Nat.and_lt_two_pow _ q2
    exact ⟨by omega, by omega⟩
  have h1 := h p l e R s m args below meth c H locs cells slots D cy ad A ls hC hG hr hh hl ⟨hz, ha⟩ hb hk
  rw [List.map_cons, show z_val ad (0, ((((n1 : Int).toNat &&& (n2 : Int).toNat : Nat)) : Int)) = .int (Int32.ofInt (n1 : Int) &&& Int32.ofInt (n2 : Int)) from congrArg Value.int (by rw [Int.toNat_natCast, Int.toNat_natCast, z_ofN32, z_ofN32, z_ofN32, z_and32 (by omega) (by omega)])] at h1
  exact lv_iand hC.1 hC.2.1 hd h1
theorem z_ior (hd : decode M.2.1 pc = .ok (.ior, 1)) (h0 : 0 ≤ a) (h2 : 0 ≤ b) (h : z_R M (pc + 1) lo ((0, ((a.toNat ||| b.toNat : Nat) : Int)) :: sk) w μ d Q) : z_R M pc lo ((0, b) :: (0, a) :: sk) w μ d Q := by
  intro p l e R s m args below meth c H locs cells slots D cy ad A ls hC hG hr hh hl ha hb hk
  obtain ⟨hb1, ha1, ha⟩ := ha
  obtain ⟨n1, rfl⟩ := z_nat h0
  obtain ⟨n2, rfl⟩ := z_nat h2
  have q1 : n1 < 2 ^ 31 := by have := ha1.2; simp only at this; omega
  have q2 : n2 < 2 ^ 31 := by have := hb1.2; simp only at this; omega
  have hz : z_I ((((n1 : Int).toNat ||| (n2 : Int).toNat : Nat)) : Int) := by
    rw [Int.toNat_natCast, Int.toNat_natCast]
    have : (n1 ||| n2) < 2 ^ 31 := Nat.or_lt_two_pow q1 q2
    exact ⟨by omega, by omega⟩
  have h1 := h p l e R s m args below meth c H locs cells slots D cy ad A ls hC hG hr hh hl ⟨hz, ha⟩ hb hk
  rw [List.map_cons, show z_val ad (0, ((((n1 : Int).toNat ||| (n2 : Int).toNat : Nat)) : Int)) = .int (Int32.ofInt (n1 : Int) ||| Int32.ofInt (n2 : Int)) from congrArg Value.int (by rw [Int.toNat_natCast, Int.toNat_natCast, z_ofN32, z_ofN32, z_ofN32, z_or32 (by omega) (by omega)])] at h1
  exact lv_ior hC.1 hC.2.1 hd h1
theorem z_ixor (hd : decode M.2.1 pc = .ok (.ixor, 1)) (h0 : 0 ≤ a) (h2 : 0 ≤ b) (h : z_R M (pc + 1) lo ((0, ((a.toNat ^^^ b.toNat : Nat) : Int)) :: sk) w μ d Q) : z_R M pc lo ((0, b) :: (0, a) :: sk) w μ d Q := by
  intro p l e R s m args below meth c H locs cells slots D cy ad A ls hC hG hr hh hl ha hb hk
  obtain ⟨hb1, ha1, ha⟩ := ha
  obtain ⟨n1, rfl⟩ := z_nat h0
  obtain ⟨n2, rfl⟩ := z_nat h2
  have q1 : n1 < 2 ^ 31 := by have := ha1.2; simp only at this; omega
  have q2 : n2 < 2 ^ 31 := by have := hb1.2; simp only at this; omega
  have hz : z_I ((((n1 : Int).toNat ^^^ (n2 : Int).toNat : Nat)) : Int) := by
    rw [Int.toNat_natCast, Int.toNat_natCast]
    have : (n1 ^^^ n2) < 2 ^ 31 := Nat.xor_lt_two_pow q1 q2
    exact ⟨by omega, by omega⟩
  have h1 := h p l e R s m args below meth c H locs cells slots D cy ad A ls hC hG hr hh hl ⟨hz, ha⟩ hb hk
  rw [List.map_cons, show z_val ad (0, ((((n1 : Int).toNat ^^^ (n2 : Int).toNat : Nat)) : Int)) = .int (Int32.ofInt (n1 : Int) ^^^ Int32.ofInt (n2 : Int)) from congrArg Value.int (by rw [Int.toNat_natCast, Int.toNat_natCast, z_ofN32, z_ofN32, z_ofN32, z_xor32 (by omega) (by omega)])] at h1
  exact lv_ixor hC.1 hC.2.1 hd h1
theorem z_ixorn (hd : decode M.2.1 pc = .ok (.ixor, 1)) (hm : b = -1) (h : z_R M (pc + 1) lo ((0, -a - 1) :: sk) w μ d Q) : z_R M pc lo ((0, b) :: (0, a) :: sk) w μ d Q := by
  intro p l e R s m args below meth c H locs cells slots D cy ad A ls hC hG hr hh hl ha hb hk
  obtain ⟨hb1, ha1, ha⟩ := ha
  subst hm
  have hz : z_I (-a - 1) := ⟨by have := ha1.2; simp only at this; omega, by have := ha1.1; simp only at this; omega⟩
  have h1 := h p l e R s m args below meth c H locs cells slots D cy ad A ls hC hG hr hh hl ⟨hz, ha⟩ hb hk
  rw [List.map_cons, show z_val ad (0, -a - 1) = .int (Int32.ofInt a ^^^ Int32.ofInt (-1)) from congrArg Value.int (z_not32 a).symm] at h1
  exact lv_ixor hC.1 hC.2.1 hd h1
theorem z_iandn (hd : decode M.2.1 pc = .ok (.iand, 1)) (q : Int) (hm : b = -q - 1) (h0 : 0 ≤ a) (h2 : 0 ≤ q) (h : z_R M (pc + 1) lo ((0, ((a.toNat ^^^ (a.toNat &&& q.toNat) : Nat) : Int)) :: sk) w μ d Q) : z_R M pc lo ((0, b) :: (0, a) :: sk) w μ d Q := by
  intro p l e R s m args below meth c H locs cells slots D cy ad A ls hC hG hr hh hl ha hb hk
  obtain ⟨hb1, ha1, ha⟩ := ha
  subst hm
  obtain ⟨n1, rfl⟩ := z_nat h0
  obtain ⟨n2, rfl⟩ := z_nat h2
  have q1 : n1 < 2 ^ 31 := by have := ha1.2; simp only at this; omega
  have q2 : n2 < 2 ^ 31 := by have := hb1.1; simp only at this; omega
  have hz : z_I ((((n1 : Int).toNat ^^^ ((n1 : Int).toNat &&& (n2 : Int).toNat) : Nat)) : Int) := by
    rw [Int.toNat_natCast, Int.toNat_natCast]
    have : (n1 ^^^ (n1 &&& n2)) < 2 ^ 31 := Nat.xor_lt_two_pow q1 (Nat.and_lt_two_pow _ q2)
    exact ⟨by omega, by omega⟩
  have h1 := h p l e R s m args below meth c H locs cells slots D cy ad A ls hC hG hr hh hl ⟨hz, ha⟩ hb hk
  rw [List.map_cons, show z_val ad (0, ((((n1 : Int).toNat ^^^ ((n1 : Int).toNat &&& (n2 : Int).toNat) : Nat)) : Int)) = .int (Int32.ofInt (n1 : Int) &&& Int32.ofInt (-(n2 : Int) - 1)) from congrArg Value.int (by rw [Int.toNat_natCast, Int.toNat_natCast, z_andn32 q1 q2])] at h1
  exact lv_iand hC.1 hC.2.1 hd h1
theorem z_ishl (hd : decode M.2.1 pc = .ok (.ishl, 1)) (h0 : 0 ≤ b) (h2 : b < 32) (hs : z_I (a * 2 ^ b.toNat)) (h : z_R M (pc + 1) lo ((0, a * 2 ^ b.toNat) :: sk) w μ d Q) : z_R M pc lo ((0, b) :: (0, a) :: sk) w μ d Q := by
  intro p l e R s m args below meth c H locs cells slots D cy ad A ls hC hG hr hh hl ha hb hk
  obtain ⟨hb1, ha1, ha⟩ := ha
  have h1 := h p l e R s m args below meth c H locs cells slots D cy ad A ls hC hG hr hh hl ⟨hs, ha⟩ hb hk
  rw [List.map_cons, show z_val ad (0, a * 2 ^ b.toNat) = .int (Int32.ofInt a <<< (Int32.ofInt b &&& 31)) from congrArg Value.int (z_shl32 h0 h2).symm] at h1
  exact lv_ishl hC.1 hC.2.1 hd h1
theorem z_ishr (hd : decode M.2.1 pc = .ok (.ishr, 1)) (h0 : 0 ≤ b) (h2 : b < 32) (h : z_R M (pc + 1) lo ((0, a / 2 ^ b.toNat) :: sk) w μ d Q) : z_R M pc lo ((0, b) :: (0, a) :: sk) w μ d Q := by
  intro p l e R s m args below meth c H locs cells slots D cy ad A ls hC hG hr hh hl ha hb hk
  obtain ⟨hb1, ha1, ha⟩ := ha
  have h1 := h p l e R s m args below meth c H locs cells slots D cy ad A ls hC hG hr hh hl ⟨z_shrI ha1, ha⟩ hb hk
  rw [List.map_cons, show z_val ad (0, a / 2 ^ b.toNat) = .int (Int32.ofInt a >>> (Int32.ofInt b &&& 31)) from congrArg Value.int (z_shr32 ha1 h0 h2).symm] at h1
  exact lv_ishr hC.1 hC.2.1 hd h1
theorem z_iushr (hd : decode M.2.1 pc = .ok (.iushr, 1)) (h0 : 0 ≤ b) (h2 : b < 32) (h3 : 0 ≤ a) (h : z_R M (pc + 1) lo ((0, a / 2 ^ b.toNat) :: sk) w μ d Q) : z_R M pc lo ((0, b) :: (0, a) :: sk) w μ d Q := by
  intro p l e R s m args below meth c H locs cells slots D cy ad A ls hC hG hr hh hl ha hb hk
  obtain ⟨hb1, ha1, ha⟩ := ha
  have h1 := h p l e R s m args below meth c H locs cells slots D cy ad A ls hC hG hr hh hl ⟨z_shrI ha1, ha⟩ hb hk
  exact lv_iushr hC.1 hC.2.1 hd (z_ushr32 ha1 h3 h0 h2) h1
theorem z_iushrg (hd : decode M.2.1 pc = .ok (.iushr, 1)) (h0 : 0 ≤ b) (h2 : b < 32) (hs : z_I (a % 4294967296 / 2 ^ b.toNat)) (h : z_R M (pc + 1) lo ((0, a % 4294967296 / 2 ^ b.toNat) :: sk) w μ d Q) : z_R M pc lo ((0, b) :: (0, a) :: sk) w μ d Q := by
  intro p l e R s m args below meth c H locs cells slots D cy ad A ls hC hG hr hh hl ha hb hk
  obtain ⟨hb1, ha1, ha⟩ := ha
  have h1 := h p l e R s m args below meth c H locs cells slots D cy ad A ls hC hG hr hh hl ⟨hs, ha⟩ hb hk
  exact lv_iushr hC.1 hC.2.1 hd (z_ushr32g ha1 h0 h2) h1
theorem z_ladd (hd : decode M.2.1 pc = .ok (.ladd, 1)) (hs : z_J (a + b)) (h : z_R M (pc + 1) lo ((1, a + b) :: sk) w μ d Q) : z_R M pc lo ((1, b) :: (1, a) :: sk) w μ d Q := by
  intro p l e R s m args below meth c H locs cells slots D cy ad A ls hC hG hr hh hl ha hb hk
  obtain ⟨hb1, ha1, ha⟩ := ha
  have h1 := h p l e R s m args below meth c H locs cells slots D cy ad A ls hC hG hr hh hl ⟨hs, ha⟩ hb hk
  rw [List.map_cons, show z_val ad (1, a + b) = .long (Int64.ofInt a + Int64.ofInt b) from congrArg Value.long (Int64.ofInt_add a b)] at h1
  exact lv_ladd hC.1 hC.2.1 hd h1
theorem z_lsub (hd : decode M.2.1 pc = .ok (.lsub, 1)) (hs : z_J (a - b)) (h : z_R M (pc + 1) lo ((1, a - b) :: sk) w μ d Q) : z_R M pc lo ((1, b) :: (1, a) :: sk) w μ d Q := by
  intro p l e R s m args below meth c H locs cells slots D cy ad A ls hC hG hr hh hl ha hb hk
  obtain ⟨hb1, ha1, ha⟩ := ha
  have h1 := h p l e R s m args below meth c H locs cells slots D cy ad A ls hC hG hr hh hl ⟨hs, ha⟩ hb hk
  rw [List.map_cons, show z_val ad (1, a - b) = .long (Int64.ofInt a - Int64.ofInt b) from congrArg Value.long (Int64.ofInt_sub a b)] at h1
  exact lv_lsub hC.1 hC.2.1 hd h1
theorem z_laddw (hd : decode M.2.1 pc = .ok (.ladd, 1)) (h : z_R M (pc + 1) lo ((1, Int.bmod (a + b) 18446744073709551616) :: sk) w μ d Q) : z_R M pc lo ((1, b) :: (1, a) :: sk) w μ d Q := by
  intro p l e R s m args below meth c H locs cells slots D cy ad A ls hC hG hr hh hl ha hb hk
  obtain ⟨hb1, ha1, ha⟩ := ha
  have h1 := h p l e R s m args below meth c H locs cells slots D cy ad A ls hC hG hr hh hl ⟨z_wJ _, ha⟩ hb hk
  rw [List.map_cons, show z_val ad (1, Int.bmod (a + b) 18446744073709551616) = .long (Int64.ofInt a + Int64.ofInt b) from congrArg Value.long (by rw [z_w64, Int64.ofInt_add])] at h1
  exact lv_ladd hC.1 hC.2.1 hd h1
theorem z_lmulw (hd : decode M.2.1 pc = .ok (.lmul, 1)) (h : z_R M (pc + 1) lo ((1, Int.bmod (a * b) 18446744073709551616) :: sk) w μ d Q) : z_R M pc lo ((1, b) :: (1, a) :: sk) w μ d Q := by
  intro p l e R s m args below meth c H locs cells slots D cy ad A ls hC hG hr hh hl ha hb hk
  obtain ⟨hb1, ha1, ha⟩ := ha
  have h1 := h p l e R s m args below meth c H locs cells slots D cy ad A ls hC hG hr hh hl ⟨z_wJ _, ha⟩ hb hk
  rw [List.map_cons, show z_val ad (1, Int.bmod (a * b) 18446744073709551616) = .long (Int64.ofInt a * Int64.ofInt b) from congrArg Value.long (by rw [z_w64, Int64.ofInt_mul])] at h1
  exact lv_lmul hC.1 hC.2.1 hd h1
theorem z_land (hd : decode M.2.1 pc = .ok (.land, 1)) (h0 : 0 ≤ a) (h2 : 0 ≤ b) (h : z_R M (pc + 1) lo ((1, ((a.toNat &&& b.toNat : Nat) : Int)) :: sk) w μ d Q) : z_R M pc lo ((1, b) :: (1, a) :: sk) w μ d Q := by
  intro p l e R s m args below meth c H locs cells slots D cy ad A ls hC hG hr hh hl ha hb hk
  obtain ⟨hb1, ha1, ha⟩ := ha
  obtain ⟨n1, rfl⟩ := z_nat h0
  obtain ⟨n2, rfl⟩ := z_nat h2
  have q1 : n1 < 2 ^ 63 := by have := ha1.2; simp only at this; omega
  have q2 : n2 < 2 ^ 63 := by have := hb1.2; simp only at this; omega
  have hz : z_J ((((n1 : Int).toNat &&& (n2 : Int).toNat : Nat)) : Int) := by
    rw [Int.toNat_natCast, Int.toNat_natCast]
    have : (n1 &&& n2) < 2 ^ 63 := Nat.and_lt_two_pow _ q2
    exact ⟨by omega, by omega⟩
  have h1 := h p l e R s m args below meth c H locs cells slots D cy ad A ls hC hG hr hh hl ⟨hz, ha⟩ hb hk
  rw [List.map_cons, show z_val ad (1, ((((n1 : Int).toNat &&& (n2 : Int).toNat : Nat)) : Int)) = .long (Int64.ofInt (n1 : Int) &&& Int64.ofInt (n2 : Int)) from congrArg Value.long (by rw [Int.toNat_natCast, Int.toNat_natCast, z_ofN64, z_ofN64, z_ofN64, wb_and (by omega) (by omega)])] at h1
  exact lv_land hC.1 hC.2.1 hd h1
theorem z_lor (hd : decode M.2.1 pc = .ok (.lor, 1)) (h0 : 0 ≤ a) (h2 : 0 ≤ b) (h : z_R M (pc + 1) lo ((1, ((a.toNat ||| b.toNat : Nat) : Int)) :: sk) w μ d Q) : z_R M pc lo ((1, b) :: (1, a) :: sk) w μ d Q := by
  intro p l e R s m args below meth c H locs cells slots D cy ad A ls hC hG hr hh hl ha hb hk
  obtain ⟨hb1, ha1, ha⟩ := ha
  obtain ⟨n1, rfl⟩ := z_nat h0
  obtain ⟨n2, rfl⟩ := z_nat h2
  have q1 : n1 < 2 ^ 63 := by have := ha1.2; simp only at this; omega
  have q2 : n2 < 2 ^ 63 := by have := hb1.2; simp only at this; omega
  have hz : z_J ((((n1 : Int).toNat ||| (n2 : Int).toNat : Nat)) : Int) := by
    rw [Int.toNat_natCast, Int.toNat_natCast]
    have : (n1 ||| n2) < 2 ^ 63 := Nat.or_lt_two_pow q1 q2
    exact ⟨by omega, by omega⟩
  have h1 := h p l e R s m args below meth c H locs cells slots D cy ad A ls hC hG hr hh hl ⟨hz, ha⟩ hb hk
  rw [List.map_cons, show z_val ad (1, ((((n1 : Int).toNat ||| (n2 : Int).toNat : Nat)) : Int)) = .long (Int64.ofInt (n1 : Int) ||| Int64.ofInt (n2 : Int)) from congrArg Value.long (by rw [Int.toNat_natCast, Int.toNat_natCast, z_ofN64, z_ofN64, z_ofN64, wb_or (by omega) (by omega)])] at h1
  exact lv_lor hC.1 hC.2.1 hd h1
theorem z_lxorn (hd : decode M.2.1 pc = .ok (.lxor, 1)) (hm : b = -1) (h : z_R M (pc + 1) lo ((1, -a - 1) :: sk) w μ d Q) : z_R M pc lo ((1, b) :: (1, a) :: sk) w μ d Q := by
  intro p l e R s m args below meth c H locs cells slots D cy ad A ls hC hG hr hh hl ha hb hk
  obtain ⟨hb1, ha1, ha⟩ := ha
  subst hm
  have hz : z_J (-a - 1) := ⟨by have := ha1.2; simp only at this; omega, by have := ha1.1; simp only at this; omega⟩
  have h1 := h p l e R s m args below meth c H locs cells slots D cy ad A ls hC hG hr hh hl ⟨hz, ha⟩ hb hk
  rw [List.map_cons, show z_val ad (1, -a - 1) = .long (Int64.ofInt a ^^^ Int64.ofInt (-1)) from congrArg Value.long (z_not64 a).symm] at h1
  exact lv_lxor hC.1 hC.2.1 hd h1
theorem z_landn (hd : decode M.2.1 pc = .ok (.land, 1)) (q : Int) (hm : b = -q - 1) (h0 : 0 ≤ a) (h2 : 0 ≤ q) (h : z_R M (pc + 1) lo ((1, ((a.toNat ^^^ (a.toNat &&& q.toNat) : Nat) : Int)) :: sk) w μ d Q) : z_R M pc lo ((1, b) :: (1, a) :: sk) w μ d Q := by
  intro p l e R s m args below meth c H locs cells slots D cy ad A ls hC hG hr hh hl ha hb hk
  obtain ⟨hb1, ha1, ha⟩ := ha
  subst hm
  obtain ⟨n1, rfl⟩ := z_nat h0
  obtain ⟨n2, rfl⟩ := z_nat h2
  have q1 : n1 < 2 ^ 63 := by have := ha1.2; simp only at this; omega
  have q2 : n2 < 2 ^ 63 := by have := hb1.1; simp only at this; omega
  have hz : z_J ((((n1 : Int).toNat ^^^ ((n1 : Int).toNat &&& (n2 : Int).toNat) : Nat)) : Int) := by
    rw [Int.toNat_natCast, Int.toNat_natCast]
    have : (n1 ^^^ (n1 &&& n2)) < 2 ^ 63 := Nat.xor_lt_two_pow q1 (Nat.and_lt_two_pow _ q2)
    exact ⟨by omega, by omega⟩
  have h1 := h p l e R s m args below meth c H locs cells slots D cy ad A ls hC hG hr hh hl ⟨hz, ha⟩ hb hk
  rw [List.map_cons, show z_val ad (1, ((((n1 : Int).toNat ^^^ ((n1 : Int).toNat &&& (n2 : Int).toNat) : Nat)) : Int)) = .long (Int64.ofInt (n1 : Int) &&& Int64.ofInt (-(n2 : Int) - 1)) from congrArg Value.long (by rw [Int.toNat_natCast, Int.toNat_natCast, z_andn64 q1 q2])] at h1
  exact lv_land hC.1 hC.2.1 hd h1
theorem z_lshl (hd : decode M.2.1 pc = .ok (.lshl, 1)) (h3 : 0 ≤ a) (h0 : 0 ≤ b) (h2 : b < 64) (hs : z_J (a * 2 ^ b.toNat)) (h : z_R M (pc + 1) lo ((1, a * 2 ^ b.toNat) :: sk) w μ d Q) : z_R M pc lo ((0, b) :: (1, a) :: sk) w μ d Q := by
  intro p l e R s m args below meth c H locs cells slots D cy ad A ls hC hG hr hh hl ha hb hk
  obtain ⟨hb1, ha1, ha⟩ := ha
  have h1 := h p l e R s m args below meth c H locs cells slots D cy ad A ls hC hG hr hh hl ⟨hs, ha⟩ hb hk
  exact lv_lshl hC.1 hC.2.1 hd (z_shl64 h3 h0 h2) h1
theorem z_lushr (hd : decode M.2.1 pc = .ok (.lushr, 1)) (h0 : 0 ≤ b) (h2 : b < 64) (h3 : 0 ≤ a) (h : z_R M (pc + 1) lo ((1, a / 2 ^ b.toNat) :: sk) w μ d Q) : z_R M pc lo ((0, b) :: (1, a) :: sk) w μ d Q := by
  intro p l e R s m args below meth c H locs cells slots D cy ad A ls hC hG hr hh hl ha hb hk
  obtain ⟨hb1, ha1, ha⟩ := ha
  have h1 := h p l e R s m args below meth c H locs cells slots D cy ad A ls hC hG hr hh hl ⟨z_shrJ ha1 h3, ha⟩ hb hk
  exact lv_lushr hC.1 hC.2.1 hd (z_ushr64 ha1 h3 h0 h2) h1
theorem z_ineg (hd : decode M.2.1 pc = .ok (.ineg, 1)) (hs : z_I (-a)) (h : z_R M (pc + 1) lo ((0, -a) :: sk) w μ d Q) : z_R M pc lo ((0, a) :: sk) w μ d Q := by
  intro p l e R s m args below meth c H locs cells slots D cy ad A ls hC hG hr hh hl ha hb hk
  obtain ⟨ha1, ha⟩ := ha
  have h1 := h p l e R s m args below meth c H locs cells slots D cy ad A ls hC hG hr hh hl ⟨hs, ha⟩ hb hk
  rw [List.map_cons, show z_val ad (0, -a) = .int (-Int32.ofInt a) from congrArg Value.int (Int32.ofInt_neg a)] at h1
  exact lv_ineg hC.1 hC.2.1 hd h1
theorem z_i2l_ (hd : decode M.2.1 pc = .ok (.i2l, 1)) (h : z_R M (pc + 1) lo ((1, a) :: sk) w μ d Q) : z_R M pc lo ((0, a) :: sk) w μ d Q := by
  intro p l e R s m args below meth c H locs cells slots D cy ad A ls hC hG hr hh hl ha hb hk
  obtain ⟨ha1, ha⟩ := ha
  have h1 := h p l e R s m args below meth c H locs cells slots D cy ad A ls hC hG hr hh hl ⟨⟨by have := ha1.1; simp only at this ⊢; omega, by have := ha1.2; simp only at this ⊢; omega⟩, ha⟩ hb hk
  exact lv_i2l hC.1 hC.2.1 hd (z_i2l ha1) h1
theorem z_l2i_ (hd : decode M.2.1 pc = .ok (.l2i, 1)) (h : z_R M (pc + 1) lo ((0, Int.bmod a 4294967296) :: sk) w μ d Q) : z_R M pc lo ((1, a) :: sk) w μ d Q := by
  intro p l e R s m args below meth c H locs cells slots D cy ad A ls hC hG hr hh hl ha hb hk
  obtain ⟨ha1, ha⟩ := ha
  have h1 := h p l e R s m args below meth c H locs cells slots D cy ad A ls hC hG hr hh hl ⟨z_wI _, ha⟩ hb hk
  exact lv_l2i hC.1 hC.2.1 hd (z_l2i a) h1
theorem z_i2b_ (hd : decode M.2.1 pc = .ok (.i2b, 1)) (h : z_R M (pc + 1) lo ((0, Int.bmod a 256) :: sk) w μ d Q) : z_R M pc lo ((0, a) :: sk) w μ d Q := by
  intro p l e R s m args below meth c H locs cells slots D cy ad A ls hC hG hr hh hl ha hb hk
  obtain ⟨ha1, ha⟩ := ha
  have h1 := h p l e R s m args below meth c H locs cells slots D cy ad A ls hC hG hr hh hl ⟨⟨by have := Int.le_bmod (x := a) (m := 256) (by decide); simp only; omega, by have := Int.bmod_lt (x := a) (m := 256) (by decide); simp only; omega⟩, ha⟩ hb hk
  exact lv_i2b hC.1 hC.2.1 hd (z_i2b ha1) h1
end ZS

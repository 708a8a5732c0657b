/-! ALL TREES of a skin, edge by edge -/
noncomputable def zq_f (chk : Nat → Bool) (r : Nat) : Nat → Nat → Bool :=
  Nat.rec (fun m cnt => cond (Nat.beq cnt 0) (chk m) true) (fun r ih m cnt => cond (Nat.ble cnt (Nat.succ r)) (cond (ih (Nat.mul 2 m) cnt) (Nat.rec true (fun c _ => ih (Nat.succ (Nat.mul 2 m)) c) cnt) false) true) r
noncomputable def zq_D (m : Nat) : Bool := zq_k 0x9279a58238a171f79d61b69951759541349130f38d20b289107185003081 0x49c51b78d6569c98171a556299d85a0c89072811634c031f09160e2d010f 0x1cb4c92862112c32920494084d24503851c210c00614f1033420403ce34c 22 40 m
noncomputable def zq_C (m : Nat) : Bool := zq_k 0x51759541349130f38d20b289107185003081 0x1cc00b3852425c44031950523d421358d44a 0x18b0c92842012c72821490081c61440c2040 14 24 m
def zpop (x : Nat) : Nat := x % 2 + x / 2 % 2 + x / 4 % 2 + x / 8 % 2 + x / 16 % 2 + x / 32 % 2 + x / 64 % 2 + x / 128 % 2
/-- the number told by bits, the highest first -/
def zvb (b : Nat → Bool) : Nat → Nat → Nat
  | m, 0 => m
  | m, r + 1 => zvb b (2 * m + (if b r = true then 1 else 0)) r
def znb (b : Nat → Bool) : Nat → Nat
  | 0 => 0
  | r + 1 => (if b r = true then 1 else 0) + znb b r
section TS
variable {b : Nat → Bool} {chk : Nat → Bool}
theorem znb_le : ∀ r : Nat, znb b r ≤ r
  | 0 => Nat.le_refl _
  | r + 1 => by
    have := znb_le r
    show (if b r = true then 1 else 0) + znb b r ≤ r + 1
    split <;> omega
theorem zvb_div : ∀ (r m : Nat), zvb b m r / 2 ^ r = m
  | 0, m => by
    show m / 2 ^ 0 = m
    rw [Nat.pow_zero, Nat.div_one]
  | r + 1, m => by
    show zvb b (2 * m + (if b r = true then 1 else 0)) r / 2 ^ (r + 1) = m
    rw [Nat.pow_succ, ← Nat.div_div_eq_div_mul, zvb_div r]
    split <;> omega
theorem zvb_bit : ∀ (r m i : Nat), i < r → zvb b m r / 2 ^ i % 2 = if b i = true then 1 else 0
  | 0, _, i, h => absurd h (Nat.not_lt_zero i)
  | r + 1, m, i, h => by
    show zvb b (2 * m + (if b r = true then 1 else 0)) r / 2 ^ i % 2 = _
    rcases (by omega : i = r ∨ i < r) with q | q
    · rw [q, zvb_div]
      split <;> omega
    · exact zvb_bit r _ i q
theorem zvb_add : ∀ (s r m : Nat), zvb b m (r + s) = zvb b (zvb (fun i => b (r + i)) m s) r
  | 0, _, _ => rfl
  | s + 1, r, m => by
    show zvb b (2 * m + (if b (r + s) = true then 1 else 0)) (r + s) = zvb b (zvb (fun i => b (r + i)) (2 * m + (if b (r + s) = true then 1 else 0)) s) r
    exact zvb_add s r _
theorem znb_add : ∀ (s r : Nat), znb b (r + s) = znb (fun i => b (r + i)) s + znb b r
  | 0, r => by show znb b r = 0 + znb b r; omega
  | s + 1, r => by
    show (if b (r + s) = true then 1 else 0) + znb b (r + s) = (if b (r + s) = true then 1 else 0) + znb (fun i => b (r + i)) s + znb b r
    rw [znb_add s r]
    omega
theorem zq_f_ok : ∀ (r m cnt : Nat), zq_f chk r m cnt = true → znb b r = cnt → chk (zvb b m r) = true
  | 0, m, cnt, h, hn => by
    have e : zq_f chk 0 m cnt = cond (Nat.beq cnt 0) (chk m) true := rfl
    have hn : 0 = cnt := hn
    subst hn
    exact h
  | r + 1, m, cnt, h, hn => by
    have hn : (if b r = true then 1 else 0) + znb b r = cnt := hn
    have lb := znb_le (b := b) r
    have e : zq_f chk (r + 1) m cnt = cond (Nat.ble cnt (Nat.succ r)) (cond (zq_f chk r (Nat.mul 2 m) cnt) (Nat.rec true (fun c _ => zq_f chk r (Nat.succ (Nat.mul 2 m)) c) cnt) false) true := rfl
    have le : Nat.ble cnt (Nat.succ r) = true := Nat.ble_eq_true_of_le (by split at hn <;> omega)
    rw [e, le] at h
    have h : cond (zq_f chk r (2 * m) cnt) (Nat.rec true (fun c _ => zq_f chk r (Nat.succ (Nat.mul 2 m)) c) cnt) false = true := h
    have h1 : zq_f chk r (2 * m) cnt = true := by
      cases hz : zq_f chk r (2 * m) cnt with
      | true => rfl
      | false => rw [hz] at h; cases h
    rw [h1] at h
    show chk (zvb b (2 * m + (if b r = true then 1 else 0)) r) = true
    by_cases q : b r = true
    · rw [if_pos q] at hn ⊢
      cases cnt with
      | zero => omega
      | succ c => exact zq_f_ok r (2 * m + 1) c h (by omega)
    · rw [if_neg q] at hn ⊢
      exact zq_f_ok r (2 * m) cnt h1 (by omega)
end TS

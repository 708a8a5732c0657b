/-! THE TREES of one CUBE, of two CUBES, some of them -/
theorem zq_two {chk : Nat → Bool} {r m c : Nat} (h0 : zq_f chk r (2 * m) (c + 1) = true) (h1 : zq_f chk r (2 * m + 1) c = true) : zq_f chk (r + 1) m (c + 1) = true := by
  have e : zq_f chk (r + 1) m (c + 1) = cond (Nat.ble (c + 1) (Nat.succ r)) (cond (zq_f chk r (2 * m) (c + 1)) (zq_f chk r (2 * m + 1) c) false) true := rfl
  rw [e, h0, h1]
  cases Nat.ble (c + 1) (Nat.succ r) <;> rfl
theorem zq_four {chk : Nat → Bool} {r m c : Nat} (h0 : zq_f chk r (4 * m) (c + 2) = true) (h1 : zq_f chk r (4 * m + 1) (c + 1) = true) (h2 : zq_f chk r (4 * m + 2) (c + 1) = true) (h3 : zq_f chk r (4 * m + 3) c = true) : zq_f chk (r + 2) m (c + 2) = true := by
  refine zq_two (zq_two ?_ ?_) (zq_two ?_ ?_)
  · rw [show 2 * (2 * m) = 4 * m by omega]
    exact h0
  · rw [show 2 * (2 * m) + 1 = 4 * m + 1 by omega]
    exact h1
  · rw [show 2 * (2 * m + 1) = 4 * m + 2 by omega]
    exact h2
  · rw [show 2 * (2 * m + 1) + 1 = 4 * m + 3 by omega]
    exact h3
theorem zrunC : zq_f zq_C 12 0 5 = true := by decide +kernel
set_option maxRecDepth 100000 in
theorem zrx17_0 : zq_f zq_D 10 68 7 = true := by decide +kernel
set_option maxRecDepth 100000 in
theorem zrx17_1 : zq_f zq_D 10 69 6 = true := by decide +kernel
set_option maxRecDepth 100000 in
theorem zrx17_2 : zq_f zq_D 10 70 6 = true := by decide +kernel
set_option maxRecDepth 100000 in
theorem zrx17_3 : zq_f zq_D 10 71 5 = true := by decide +kernel
theorem zrx17 : zq_f zq_D 12 17 7 = true := zq_four (c := 5) zrx17_0 zrx17_1 zrx17_2 zrx17_3
set_option maxRecDepth 100000 in
theorem zrx21_0 : zq_f zq_D 10 84 6 = true := by decide +kernel
set_option maxRecDepth 100000 in
theorem zrx21_1 : zq_f zq_D 10 85 5 = true := by decide +kernel
set_option maxRecDepth 100000 in
theorem zrx21_2 : zq_f zq_D 10 86 5 = true := by decide +kernel
set_option maxRecDepth 100000 in
theorem zrx21_3 : zq_f zq_D 10 87 4 = true := by decide +kernel
theorem zrx21 : zq_f zq_D 12 21 6 = true := zq_four (c := 4) zrx21_0 zrx21_1 zrx21_2 zrx21_3
set_option maxRecDepth 100000 in
theorem zrx85_0 : zq_f zq_D 10 340 5 = true := by decide +kernel
set_option maxRecDepth 100000 in
theorem zrx85_1 : zq_f zq_D 10 341 4 = true := by decide +kernel
set_option maxRecDepth 100000 in
theorem zrx85_2 : zq_f zq_D 10 342 4 = true := by decide +kernel
set_option maxRecDepth 100000 in
theorem zrx85_3 : zq_f zq_D 10 343 3 = true := by decide +kernel
theorem zrx85 : zq_f zq_D 12 85 5 = true := zq_four (c := 3) zrx85_0 zrx85_1 zrx85_2 zrx85_3
set_option maxRecDepth 100000 in
theorem zrx57_0 : zq_f zq_D 10 228 5 = true := by decide +kernel
set_option maxRecDepth 100000 in
theorem zrx57_1 : zq_f zq_D 10 229 4 = true := by decide +kernel
set_option maxRecDepth 100000 in
theorem zrx57_2 : zq_f zq_D 10 230 4 = true := by decide +kernel
set_option maxRecDepth 100000 in
theorem zrx57_3 : zq_f zq_D 10 231 3 = true := by decide +kernel
theorem zrx57 : zq_f zq_D 12 57 5 = true := zq_four (c := 3) zrx57_0 zrx57_1 zrx57_2 zrx57_3
set_option maxRecDepth 100000 in
theorem zrx27_0 : zq_f zq_D 10 108 5 = true := by decide +kernel
set_option maxRecDepth 100000 in
theorem zrx27_1 : zq_f zq_D 10 109 4 = true := by decide +kernel
set_option maxRecDepth 100000 in
theorem zrx27_2 : zq_f zq_D 10 110 4 = true := by decide +kernel
set_option maxRecDepth 100000 in
theorem zrx27_3 : zq_f zq_D 10 111 3 = true := by decide +kernel
theorem zrx27 : zq_f zq_D 12 27 5 = true := zq_four (c := 3) zrx27_0 zrx27_1 zrx27_2 zrx27_3
set_option maxRecDepth 100000 in
theorem zrx91_0 : zq_f zq_D 10 364 4 = true := by decide +kernel
set_option maxRecDepth 100000 in
theorem zrx91_1 : zq_f zq_D 10 365 3 = true := by decide +kernel
set_option maxRecDepth 100000 in
theorem zrx91_2 : zq_f zq_D 10 366 3 = true := by decide +kernel
set_option maxRecDepth 100000 in
theorem zrx91_3 : zq_f zq_D 10 367 2 = true := by decide +kernel
theorem zrx91 : zq_f zq_D 12 91 4 = true := zq_four (c := 2) zrx91_0 zrx91_1 zrx91_2 zrx91_3
set_option maxRecDepth 100000 in
theorem zrx62_0 : zq_f zq_D 10 248 4 = true := by decide +kernel
set_option maxRecDepth 100000 in
theorem zrx62_1 : zq_f zq_D 10 249 3 = true := by decide +kernel
set_option maxRecDepth 100000 in
theorem zrx62_2 : zq_f zq_D 10 250 3 = true := by decide +kernel
set_option maxRecDepth 100000 in
theorem zrx62_3 : zq_f zq_D 10 251 2 = true := by decide +kernel
theorem zrx62 : zq_f zq_D 12 62 4 = true := zq_four (c := 2) zrx62_0 zrx62_1 zrx62_2 zrx62_3
set_option maxRecDepth 100000 in
theorem zrx95 : zq_f zq_D 12 95 3 = true := by decide +kernel
set_option maxRecDepth 100000 in
theorem zrx126 : zq_f zq_D 12 126 3 = true := by decide +kernel
set_option maxRecDepth 100000 in
theorem zrx3 : zq_f zq_D 12 3 7 = true := by decide +kernel
set_option maxRecDepth 100000 in
theorem zrx127 : zq_f zq_D 12 127 2 = true := by decide +kernel
set_option maxRecDepth 100000 in
theorem zrx0 : zq_f zq_D 12 0 9 = true := by decide +kernel

/-! FACES -/
/-- place j = 6 c + d: direction d of cube c has no cube beside -/
def zfr (s : Int → Int) (n : Int) (j : Int) : Bool := decide (zk s n (j / 6) (j % 6) (-1) = -1)
/-- what both sides tell of the FACES ahead of place j -/
def zFa (s : Int → Int) (n : Int) (j : Nat) (cu di : Int → Int) : Prop := ∀ i : Nat, i < j → zfr s n i = true → cu (zN i (zfr s n)) = (i : Int) / 6 ∧ di (zN i (zfr s n)) = (i : Int) % 6
theorem zN_lt_of {P : Int → Bool} {i j : Nat} (h : i < j) (hp : P i = true) : zN i P < zN j P := by
  have h1 := zN_mono (P := P) (n := i + 1) (k := j) (by omega)
  rw [zN_s, zi_t hp] at h1
  omega
theorem zFa_up {s : Int → Int} {n : Int} {j : Nat} {cu di : Int → Int} (h : zFa s n j cu di) (hf : zfr s n j = true) : zFa s n (j + 1) (zs_up cu (zN j (zfr s n)) ((j : Int) / 6)) (zs_up di (zN j (zfr s n)) ((j : Int) % 6)) := by
  intro i hi hp
  unfold zs_up
  by_cases q : i = j
  · subst q
    rw [if_pos rfl, if_pos rfl]
    exact ⟨rfl, rfl⟩
  · have := zN_lt_of (P := zfr s n) (i := i) (j := j) (by omega) hp
    rw [if_neg (by omega), if_neg (by omega)]
    exact h i (by omega) hp
theorem zFa_st {s : Int → Int} {n : Int} {j : Nat} {cu di : Int → Int} (h : zFa s n j cu di) (hf : zfr s n j = false) : zFa s n (j + 1) cu di := by
  intro i hi hp
  by_cases q : i = j
  · subst q
    rw [hf] at hp
    cases hp
  · exact h i (by omega) hp

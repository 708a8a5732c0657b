/-! FACES -/
theorem z_st_nx {μ : z_Mem} {o i v p j : Int} (h : ¬ (p = o ∧ j = i)) : z_st μ o i v p j = μ p j := by
  unfold z_st
  exact if_neg h
/-- place j = 6 c + d: direction d of cube c has no cube beside -/
def zfr (s : Int → Int) (n : Int) (j : Int) : Bool := decide (zk s n (j / 6) (j % 6) (-1) = -1)
/-- what both sides tell of the FACES ahead of place j -/
def zFa (s : Int → Int) (n : Int) (j : Nat) (cu di : Int → Int) : Prop := ∀ i : Nat, i < j → zfr s n i = true → cu (zN i (zfr s n)) = (i : Int) / 6 ∧ di (zN i (zfr s n)) = (i : Int) % 6
theorem zN_lt_of {P : Int → Bool} {i j : Nat} (h : i < j) (hp : P i = true) : zN i P < zN j P := by
  have h1 := zN_mono (P := P) (n := i + 1) (k := j) (by omega)
  rw [zN_s, zi_t hp] at h1
  omega
theorem zFa_up {s : Int → Int} {n : Int} {j : Nat} {cu di : Int → Int} (h : zFa s n j cu di) (hf : zfr s n j = true) : zFa s n (j + 1) (zs_up cu (zN j (zfr s n)) ((j : Int) / 6)) (zs_up di (zN j (zfr s n)) ((j : Int) % 6)) := by
  intro i hi hp
  unfold zs_up
  by_cases q : i = j
  · subst q
    rw [if_pos rfl, if_pos rfl]
    exact ⟨rfl, rfl⟩
  · have := zN_lt_of (P := zfr s n) (i := i) (j := j) (by omega) hp
    rw [if_neg (by omega), if_neg (by omega)]
    exact h i (by omega) hp
theorem zFa_st {s : Int → Int} {n : Int} {j : Nat} {cu di : Int → Int} (h : zFa s n j cu di) (hf : zfr s n j = false) : zFa s n (j + 1) cu di := by
  intro i hi hp
  by_cases q : i = j
  · subst q
    rw [hf] at hp
    cases hp
  · exact h i (by omega) hp
section FA
variable {n : Int} {s : Int → Int} {μ0 : z_Mem} {d : Nat} {Kn : z_Mem → Prop}
/-- the class: faces ahead of place j are found -/
def zCF (μ0 m : z_Mem) (s : Int → Int) (n : Int) (j : Nat) : Prop := (∀ o i, ¬ (o = 6 ∧ i = 2) → o ≠ 8 → o ≠ 9 → o ≠ 10 → m o i = μ0 o i) ∧ m 6 2 = zN j (zfr s n) ∧ zFa s n j (m 9) (m 10) ∧ ∀ i : Nat, i < j → m 8 i = if zfr s n i = true then zN i (zfr s n) else -1
theorem zCF_no {m : z_Mem} {j : Nat} (h : zCF μ0 m s n j) (hf : zfr s n j = false) : zCF μ0 (z_st m 8 j (-1)) s n (j + 1) := by
  obtain ⟨h1, h2, h3, h4⟩ := h
  refine ⟨fun o i a b c e => by rw [z_st_ne b]; exact h1 o i a b c e, ?_, ?_, fun i hi => ?_⟩
  · rw [z_st_ne (by decide), h2, zN_s, zi_f hf]
    omega
  · have e9 : z_st m 8 j (-1) 9 = m 9 := funext fun i => z_st_ne (by decide)
    have e10 : z_st m 8 j (-1) 10 = m 10 := funext fun i => z_st_ne (by decide)
    rw [e9, e10]
    exact zFa_st h3 hf
  · by_cases q : i = j
    · subst q
      rw [z_st_eq, if_neg (by rw [hf]; decide)]
    · rw [z_st_ni (by omega)]
      exact h4 i (by omega)
theorem zCF_yes {m : z_Mem} {j : Nat} {f c e : Int} (h : zCF μ0 m s n j) (hf : zfr s n j = true) (ef : f = zN j (zfr s n)) (ec : c = (j : Int) / 6) (ee : e = (j : Int) % 6) : zCF μ0 (z_st (z_st (z_st (z_st (z_st m 8 j (-1)) 8 j f) 9 f c) 10 f e) 6 2 (f + 1)) s n (j + 1) := by
  obtain ⟨h1, h2, h3, h4⟩ := h
  subst ef ec ee
  refine ⟨fun o i a b c e => by rw [z_st_nx a, z_st_ne e, z_st_ne c, z_st_ne b, z_st_ne b]; exact h1 o i a b c e, ?_, ?_, fun i hi => ?_⟩
  · rw [z_st_eq, zN_s, zi_t hf]
  · have e9 : z_st (z_st (z_st (z_st (z_st m 8 j (-1)) 8 j (zN j (zfr s n))) 9 (zN j (zfr s n)) ((j : Int) / 6)) 10 (zN j (zfr s n)) ((j : Int) % 6)) 6 2 (zN j (zfr s n) + 1) 9 = zs_up (m 9) (zN j (zfr s n)) ((j : Int) / 6) := funext fun i => by
      rw [z_st_ne (by decide), z_st_ne (by decide)]
      unfold zs_up
      by_cases q : i = zN j (zfr s n)
      · rw [if_pos q, q, z_st_eq]
      · rw [if_neg q, z_st_ni q, z_st_ne (by decide), z_st_ne (by decide)]
    have e10 : z_st (z_st (z_st (z_st (z_st m 8 j (-1)) 8 j (zN j (zfr s n))) 9 (zN j (zfr s n)) ((j : Int) / 6)) 10 (zN j (zfr s n)) ((j : Int) % 6)) 6 2 (zN j (zfr s n) + 1) 10 = zs_up (m 10) (zN j (zfr s n)) ((j : Int) % 6) := funext fun i => by
      rw [z_st_ne (by decide)]
      unfold zs_up
      by_cases q : i = zN j (zfr s n)
      · rw [if_pos q, q, z_st_eq]
      · rw [if_neg q, z_st_ni q, z_st_ne (by decide), z_st_ne (by decide), z_st_ne (by decide)]
    rw [e9, e10]
    exact zFa_up h3 hf
  · rw [z_st_ne (by decide), z_st_ne (by decide), z_st_ne (by decide)]
    by_cases q : i = j
    · subst q
      rw [z_st_eq, if_pos hf]
    · rw [z_st_ni (by omega), z_st_ni (by omega)]
      exact h4 i (by omega)
end FA

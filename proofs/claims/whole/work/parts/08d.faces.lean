/-! FACES -/
theorem z_st_nx {μ : z_Mem} {o i v p j : Int} (h : ¬ (p = o ∧ j = i)) : z_st μ o i v p j = μ p j := by
  unfold z_st
  exact if_neg h
/-- place j = 6 c + d: direction d of cube c has no cube beside -/
def zfr (s : Int → Int) (n : Int) (j : Int) : Bool := decide (zk s n (j / 6) (j % 6) (-1) = -1)
/-- what both sides tell of the FACES ahead of place j -/
def zFa (s : Int → Int) (n : Int) (j : Nat) (cu di : Int → Int) : Prop := ∀ i : Nat, i < j → zfr s n i = true → cu (zN i (zfr s n)) = (i : Int) / 6 ∧ di (zN i (zfr s n)) = (i : Int) % 6
theorem zN_lt_of {P : Int → Bool} {i j : Nat} (h : i < j) (hp : P i = true) : zN i P < zN j P := by
  have h1 := zN_mono (P := P) (n := i + 1) (k := j) (by omega)
  rw [zN_s, zi_t hp] at h1
  omega
theorem zFa_up {s : Int → Int} {n : Int} {j : Nat} {cu di : Int → Int} (h : zFa s n j cu di) (hf : zfr s n j = true) : zFa s n (j + 1) (zs_up cu (zN j (zfr s n)) ((j : Int) / 6)) (zs_up di (zN j (zfr s n)) ((j : Int) % 6)) := by
  intro i hi hp
  unfold zs_up
  by_cases q : i = j
  · subst q
    rw [if_pos rfl, if_pos rfl]
    exact ⟨rfl, rfl⟩
  · have := zN_lt_of (P := zfr s n) (i := i) (j := j) (by omega) hp
    rw [if_neg (by omega), if_neg (by omega)]
    exact h i (by omega) hp
theorem zFa_st {s : Int → Int} {n : Int} {j : Nat} {cu di : Int → Int} (h : zFa s n j cu di) (hf : zfr s n j = false) : zFa s n (j + 1) cu di := by
  intro i hi hp
  by_cases q : i = j
  · subst q
    rw [hf] at hp
    cases hp
  · exact h i (by omega) hp
section FA
variable {n : Int} {s : Int → Int} {μ0 : z_Mem} {d : Nat} {Kn : z_Mem → Prop}
/-- the class: faces ahead of place j are found -/
def zCF (μ0 m : z_Mem) (s : Int → Int) (n : Int) (j : Nat) : Prop := (∀ o i, ¬ (o = 6 ∧ i = 2) → o ≠ 8 → o ≠ 9 → o ≠ 10 → m o i = μ0 o i) ∧ m 6 2 = zN j (zfr s n) ∧ zFa s n j (m 9) (m 10) ∧ ∀ i : Nat, i < j → m 8 i = if zfr s n i = true then zN i (zfr s n) else -1
theorem zCF_no {m : z_Mem} {j : Nat} (h : zCF μ0 m s n j) (hf : zfr s n j = false) : zCF μ0 (z_st m 8 j (-1)) s n (j + 1) := by
  obtain ⟨h1, h2, h3, h4⟩ := h
  refine ⟨fun o i a b c e => by rw [z_st_ne b]; exact h1 o i a b c e, ?_, ?_, fun i hi => ?_⟩
  · rw [z_st_ne (by decide), h2, zN_s, zi_f hf]
    omega
  · have e9 : z_st m 8 j (-1) 9 = m 9 := funext fun i => z_st_ne (by decide)
    have e10 : z_st m 8 j (-1) 10 = m 10 := funext fun i => z_st_ne (by decide)
    rw [e9, e10]
    exact zFa_st h3 hf
  · by_cases q : i = j
    · subst q
      rw [z_st_eq, if_neg (by rw [hf]; decide)]
    · rw [z_st_ni (by omega)]
      exact h4 i (by omega)
theorem zCF_yes {m : z_Mem} {j : Nat} {f c e : Int} (h : zCF μ0 m s n j) (hf : zfr s n j = true) (ef : f = zN j (zfr s n)) (ec : c = (j : Int) / 6) (ee : e = (j : Int) % 6) : zCF μ0 (z_st (z_st (z_st (z_st (z_st m 8 j (-1)) 8 j f) 9 f c) 10 f e) 6 2 (f + 1)) s n (j + 1) := by
  obtain ⟨h1, h2, h3, h4⟩ := h
  subst ef ec ee
  refine ⟨fun o i a b c e => by rw [z_st_nx a, z_st_ne e, z_st_ne c, z_st_ne b, z_st_ne b]; exact h1 o i a b c e, ?_, ?_, fun i hi => ?_⟩
  · rw [z_st_eq, zN_s, zi_t hf]
  · have e9 : z_st (z_st (z_st (z_st (z_st m 8 j (-1)) 8 j (zN j (zfr s n))) 9 (zN j (zfr s n)) ((j : Int) / 6)) 10 (zN j (zfr s n)) ((j : Int) % 6)) 6 2 (zN j (zfr s n) + 1) 9 = zs_up (m 9) (zN j (zfr s n)) ((j : Int) / 6) := funext fun i => by
      rw [z_st_ne (by decide), z_st_ne (by decide)]
      unfold zs_up
      by_cases q : i = zN j (zfr s n)
      · rw [if_pos q, q, z_st_eq]
      · rw [if_neg q, z_st_ni q, z_st_ne (by decide), z_st_ne (by decide)]
    have e10 : z_st (z_st (z_st (z_st (z_st m 8 j (-1)) 8 j (zN j (zfr s n))) 9 (zN j (zfr s n)) ((j : Int) / 6)) 10 (zN j (zfr s n)) ((j : Int) % 6)) 6 2 (zN j (zfr s n) + 1) 10 = zs_up (m 10) (zN j (zfr s n)) ((j : Int) % 6) := funext fun i => by
      rw [z_st_ne (by decide)]
      unfold zs_up
      by_cases q : i = zN j (zfr s n)
      · rw [if_pos q, q, z_st_eq]
      · rw [if_neg q, z_st_ni q, z_st_ne (by decide), z_st_ne (by decide), z_st_ne (by decide)]
    rw [e9, e10]
    exact zFa_up h3 hf
  · rw [z_st_ne (by decide), z_st_ne (by decide), z_st_ne (by decide)]
    by_cases q : i = j
    · subst q
      rw [z_st_eq, if_pos hf]
    · rw [z_st_ni (by omega), z_st_ni (by omega)]
      exact h4 i (by omega)
theorem e_findFaces (h0 : μ0 6 0 = n) (hn : 0 ≤ n ∧ n ≤ 7) (hs : μ0 7 = s) (h6 : z_c6 s (3 * n)) (hF : zN (6 * n.toNat) (zfr s n) ≤ 30) (hk : ∀ m, zCF μ0 m s n (6 * n.toNat) → Kn m) : z_cn m_X9_findFaces [(2, 6)] μ0 (d + 2) Kn := by
  have key : ∀ c, 0 ≤ c → c ≤ n → ∀ m, zCF μ0 m s n (6 * c.toNat) → z_rn m_X9_findFaces 7 [some (2, 6), some (0, c), none] m (d + 2) Kn := by
    refine z_up (fun c c1 c2 ih m hm => ?_)
    have e60 : ∀ m' j, zCF μ0 m' s n j → m' 6 0 = n := fun m' j h => by rw [h.1 6 0 (by decide) (by decide) (by decide) (by decide)]; exact h0
    refine V_X9_findFaces_7 ?_
    rw [e60 m _ hm]
    refine ⟨fun q => ?_, fun q => ?_⟩
    · obtain rfl : c = n := by omega
      exact hk m hm
    · have key2 : ∀ t, 0 ≤ t → t ≤ 6 → ∀ m, zCF μ0 m s n (6 * c.toNat + t.toNat) → z_rn m_X9_findFaces 17 [some (2, 6), some (0, c), some (0, t)] m (d + 2) Kn := by
        refine z_up (fun t t1 t2 ih2 m hm => ?_)
        refine V_X9_findFaces_17 ⟨fun q1 => ⟨⟨by omega, by omega⟩, ih q m ?_⟩, fun q1 => ⟨⟨by omega, by omega⟩, ⟨by omega, by omega⟩, ⟨by omega, by omega⟩, ?_⟩⟩
        · rw [show 6 * (c + 1).toNat = 6 * c.toNat + t.toNat by omega]
          exact hm
        · have ej : 6 * c + t = ((6 * c.toNat + t.toNat : Nat) : Int) := by omega
          have ed : ((6 * c.toNat + t.toNat : Nat) : Int) / 6 = c := by omega
          have em : ((6 * c.toNat + t.toNat : Nat) : Int) % 6 = t := by omega
          have e7 : z_st m 8 (6 * c + t) (-1) 7 = s := by
            rw [← hs]
            funext i
            rw [z_st_ne (by decide)]
            exact hm.1 7 i (by omega) (by decide) (by decide) (by decide)
          have en := zN_mono (P := zfr s n) (n := 6 * c.toNat + t.toNat + 1) (k := 6 * n.toNat) (by omega)
          have ea := (zN_r (P := zfr s n) (6 * c.toNat + t.toNat)).1
          refine e_beside (n := n) (by rw [z_st_ne (by decide)]; exact e60 m _ hm) hn.2 ⟨c1, q⟩ (by rw [e7]; exact h6) ?_
          rw [e7]
          have fr : zfr s n ((6 * c.toNat + t.toNat : Nat) : Int) = decide (zk s n c t (-1) = -1) := by unfold zfr; rw [ed, em]
          refine ⟨fun r => ⟨⟨by omega, by omega⟩, ?_⟩, fun r => ⟨fun q3 => ?_, fun q4 => ?_⟩⟩
          · have hf : zfr s n ((6 * c.toNat + t.toNat : Nat) : Int) = false := by rw [fr]; exact decide_eq_false r
            refine ih2 q1 _ ?_
            rw [show 6 * c.toNat + (t + 1).toNat = 6 * c.toNat + t.toNat + 1 by omega, ej]
            exact zCF_no hm hf
          · have hf : zfr s n ((6 * c.toNat + t.toNat : Nat) : Int) = true := by rw [fr]; exact decide_eq_true r
            rw [zN_s, zi_t hf] at en
            rw [z_st_ne (by decide), hm.2.1] at q3
            omega
          · have hf : zfr s n ((6 * c.toNat + t.toNat : Nat) : Int) = true := by rw [fr]; exact decide_eq_true r
            rw [zN_s, zi_t hf] at en
            have w0 : z_st m 8 (6 * c + t) (-1) 6 2 = zN (6 * c.toNat + t.toNat) (zfr s n) := by rw [z_st_ne (by decide)]; exact hm.2.1
            have u1 : ∀ (m : z_Mem) (i v : Int), z_st m 8 i v 6 2 = m 6 2 := fun m i v => z_st_ne (by decide)
            have u2 : ∀ (m : z_Mem) (i v : Int), z_st m 9 i v 6 2 = m 6 2 := fun m i v => z_st_ne (by decide)
            have u3 : ∀ (m : z_Mem) (i v : Int), z_st m 10 i v 6 2 = m 6 2 := fun m i v => z_st_ne (by decide)
            simp only [u1, u2, u3, hm.2.1]
            refine ⟨⟨by omega, by omega⟩, ⟨by omega, by omega⟩, ⟨by omega, by omega⟩, ⟨by omega, by omega⟩, ⟨by omega, by omega⟩, ⟨by omega, by omega⟩, ⟨by omega, by omega⟩, ih2 q1 _ ?_⟩
            rw [show 6 * c.toNat + (t + 1).toNat = 6 * c.toNat + t.toNat + 1 by omega, ej]
            exact zCF_yes hm hf rfl ed.symm em.symm
      exact key2 0 (by omega) (by omega) m (by simpa using hm)
  refine V_X9_findFaces (key 0 (by omega) hn.1 _ ?_)
  refine ⟨fun o i a b c e => z_st_nx a, z_st_eq, fun i hi => by omega, fun i hi => by omega⟩
end FA

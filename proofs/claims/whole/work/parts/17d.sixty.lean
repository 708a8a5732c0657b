/-! AT MOST 64, by rows -/
def zAc (α : Nat → Nat) : Nat → List Nat → Prop
  | 0, l => l = []
  | _ + 1, [] => False
  | n + 1, x :: l => x = α n ∧ zAc α n l
section SX
variable {N r : Nat} {α : Nat → Nat} {acc : List Nat} {A : Int → Int}
theorem zAc_l : ∀ {n : Nat} {l : List Nat}, zAc α n l → l.length = n
  | 0, l, h => by
    have h : l = [] := h
    rw [h]
    rfl
  | n + 1, [], h => absurd h (fun z => z)
  | n + 1, x :: l, h => by
    rw [List.length_cons, zAc_l h.2]
theorem zAc_al {a : Nat → Nat} {l2 : List Nat} {c : Nat} : ∀ {n : Nat} {l : List Nat}, zAc α n l → (∀ k, k < n → a (c + k) = α k) → zAl a c l2 → zAl a (c + n) (l ++ l2)
  | 0, l, h, _, h2 => by
    have h : l = [] := h
    rw [h]
    exact h2
  | n + 1, [], h, _, _ => absurd h (fun z => z)
  | n + 1, x :: l, h, e, h2 => ⟨by omega, by rw [show c + (n + 1) - 1 = c + n by omega, e n (by omega)]; exact h.1, by rw [show c + (n + 1) - 1 = c + n by omega]; exact zAc_al h.2 (fun k hk => e k (by omega)) h2⟩
theorem zGl_64 (hN : N ≤ 22) (h0 : 0 < N) (he : N % 2 = 0) (hc : zAc α N acc) (hz : zq_e N (acc ++ acc) (2 * N) 0 [] [] = true) (hr : r < N) (hA : ∀ x : Nat, x < N → A x = α ((r + x) % N)) : (zGl N A (N + 1) (fun _ => -1) 0 []).length ≤ 64 := by
  have al : zAl (fun k => α (k % N)) (2 * N) (acc ++ acc) := by
    have h1 := zAc_al (a := fun k => α (k % N)) (c := 0) (l2 := []) hc (fun k hk => by show α ((0 + k) % N) = α k; rw [Nat.zero_add, Nat.mod_eq_of_lt hk]) trivial
    rw [List.append_nil, Nat.zero_add] at h1
    have h2 := zAc_al (a := fun k => α (k % N)) (c := N) (l2 := acc) hc (fun k hk => by show α ((N + k) % N) = α k; rw [Nat.add_mod_left, Nat.mod_eq_of_lt hk]) h1
    rw [show 2 * N = N + N by omega]
    exact h2
  have len : (acc ++ acc).length = 2 * N := by rw [List.length_append, zAc_l hc]; omega
  have zsr0 : (0 : Nat) = Nat.shiftRight ((fun _ => 0 : Nat → Nat) (2 * N)) (Nat.mul 128 ((fun k => α (k % N)) (2 * N))) := by
    have : Nat.shiftRight 0 (Nat.mul 128 (α (2 * N % N))) = 0 / 2 ^ _ := Nat.shiftRight_eq_div_pow _ _
    rw [Nat.zero_div] at this
    exact this.symm
  obtain ⟨Rw, hh⟩ := zq_e_ok (a := fun k => α (k % N)) hN (acc ++ acc) (2 * N) 0 [] [] (fun _ => 0) (Nat.le_refl _) al zsr0 (Nat.le_refl _) (show 2 * N ≤ 2 * N + 1 by omega) rfl (fun k k0 k1 => by omega) hz
  rw [len, Nat.sub_self] at hh
  have az : ∀ k : Nat, zaZ N A k = α ((r + k) % N) := fun k => by
    unfold zaZ
    have m := Nat.mod_lt k h0
    have e : ((k : Int) % (N : Int)) = ((k % N : Nat) : Int) := (Int.natCast_emod k N).symm
    rw [e, hA _ m, Nat.add_mod_mod]
  have key := zGl_bd (N := N) (A := A) (R := fun i h s => zdg (Rw (r + i.toNat)) (5 * (r + h.toNat) + s.toNat)) (by omega) (fun j j0 j1 => ?_) (fun i s i0 i1 s0 s4 => ?_) (fun i h s i0 ih hn hp s0 s4 => ?_) (N + 1) (fun _ => -1) 0 [] 0 [] (by omega) (zIv_0 (by omega) (by omega)) (Int.le_refl _) zMs_0 trivial
  · refine Nat.le_trans key ?_
    have := (hh r (Nat.zero_le _) (by omega)).2.2 hr
    have e : zbd N A (fun i h s => zdg (Rw (r + i.toNat)) (5 * (r + h.toNat) + s.toNat)) 0 [] 0 [] = zdg (Rw (r + (0 : Int).toNat)) (5 * (r + (N : Int).toNat) + (0 : Int).toNat) := by
      show zRq _ 0 N 0 = _
      unfold zRq
      rw [if_pos (by decide)]
    rw [e]
    exact this
  · obtain ⟨x, rfl⟩ : ∃ x : Nat, j = x := ⟨j.toNat, by omega⟩
    rw [hA x (by omega)]
    omega
  · have := (hh (r + i.toNat) (Nat.zero_le _) (by omega)).1.1 s.toNat (by omega)
    exact this
  · obtain ⟨i, rfl⟩ : ∃ x : Nat, i = x := ⟨i.toNat, by omega⟩
    obtain ⟨h, rfl⟩ : ∃ x : Nat, h = x := ⟨h.toNat, by omega⟩
    obtain ⟨s, rfl⟩ : ∃ x : Nat, s = x := ⟨s.toNat, by omega⟩
    have rr := (hh (r + i) (Nat.zero_le _) (by omega)).1.2 (r + h) s (by omega) (by omega) (by omega) (by omega) (by omega)
    have cmp : ∀ (c j : Nat), zRs N A (fun i h s => zdg (Rw (r + i.toNat)) (5 * (r + h.toNat) + s.toNat)) i h s c j ≤ zsR Rw (fun k => α (k % N)) (r + i) (r + h) s c (r + j) := by
      intro c
      induction c with
      | zero => intro j; exact Nat.le_refl _
      | succ c ihc =>
        intro j
        have I2 := ihc (j + 2)
        have e1 : zRs N A (fun i h s => zdg (Rw (r + i.toNat)) (5 * (r + h.toNat) + s.toNat)) i h s (c + 1) j = zRq (fun i h s => zdg (Rw (r + i.toNat)) (5 * (r + h.toNat) + s.toNat)) ((i : Int) + 1) j (zaZ N A ((i : Int) + 1)) * zRq (fun i h s => zdg (Rw (r + i.toNat)) (5 * (r + h.toNat) + s.toNat)) ((j : Int) + 1) h ((s : Int) + zaZ N A ((j : Int) + 1)) + zRs N A (fun i h s => zdg (Rw (r + i.toNat)) (5 * (r + h.toNat) + s.toNat)) i h s c ((j : Int) + 2) := rfl
        have e2 : zsR Rw (fun k => α (k % N)) (r + i) (r + h) s (c + 1) (r + j) = zdg (Rw (r + i + 1)) (5 * (r + j) + α ((r + i + 1) % N)) * (if s + α ((r + j + 1) % N) ≤ 4 then zdg (Rw (r + j + 1)) (5 * (r + h) + s + α ((r + j + 1) % N)) else 0) + zsR Rw (fun k => α (k % N)) (r + i) (r + h) s c (r + j + 2) := rfl
        have a1 := az (i + 1)
        have a2 := az (j + 1)
        rw [e1, e2, show zaZ N A ((i : Int) + 1) = α ((r + (i + 1)) % N) from a1, show zaZ N A ((j : Int) + 1) = α ((r + (j + 1)) % N) from a2]
        refine Nat.add_le_add (Nat.mul_le_mul ?_ ?_) I2
        · unfold zRq
          split
          · exact Nat.le_refl _
          · exact Nat.zero_le _
        · unfold zRq
          rw [show r + (j + 1) = r + j + 1 by omega]
          by_cases q : s + α ((r + j + 1) % N) ≤ 4
          · rw [if_pos q, if_pos (by omega)]
            show zdg (Rw (r + (j + 1))) (5 * (r + h) + (((s : Int) + (α ((r + j + 1) % N) : Int))).toNat) ≤ _
            rw [show (((s : Int) + (α ((r + j + 1) % N) : Int))).toNat = s + α ((r + j + 1) % N) by omega, show 5 * (r + h) + (s + α ((r + j + 1) % N)) = 5 * (r + h) + s + α ((r + j + 1) % N) by omega]
            exact Nat.le_refl _
          · rw [if_neg q, if_neg (by omega)]
            exact Nat.le_refl _
    have c1 := cmp (((h : Int) - i) / 2).toNat (i + 1)
    rw [show r + h - (r + i) = h - i by omega] at rr
    rw [show (((h : Int) - i) / 2).toNat = (h - i) / 2 by omega] at c1 ⊢
    exact Nat.le_trans c1 rr
end SX

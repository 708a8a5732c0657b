/-! AT MOST 64 GLUINGS, always -/
section A64
variable {p : zP} {b b' : Nat → Bool}
theorem zvb_cg : ∀ (r m : Nat), (∀ i, i < r → b i = b' i) → zvb b m r = zvb b' m r
  | 0, _, _ => rfl
  | r + 1, m, h => by
    show zvb b (2 * m + (if b r = true then 1 else 0)) r = zvb b' (2 * m + (if b' r = true then 1 else 0)) r
    rw [h r (by omega), zvb_cg r _ (fun i hi => h i (by omega))]
theorem zpop_b : zpop (zvb b 0 8) = znb b 8 := by
  have t := fun i h => zvb_bit (b := b) 8 0 i h
  have t0 : zvb b 0 8 / 1 % 2 = if b 0 = true then 1 else 0 := t 0 (by omega)
  have t1 : zvb b 0 8 / 2 % 2 = if b 1 = true then 1 else 0 := t 1 (by omega)
  have t2 : zvb b 0 8 / 4 % 2 = if b 2 = true then 1 else 0 := t 2 (by omega)
  have t3 : zvb b 0 8 / 8 % 2 = if b 3 = true then 1 else 0 := t 3 (by omega)
  have t4 : zvb b 0 8 / 16 % 2 = if b 4 = true then 1 else 0 := t 4 (by omega)
  have t5 : zvb b 0 8 / 32 % 2 = if b 5 = true then 1 else 0 := t 5 (by omega)
  have t6 : zvb b 0 8 / 64 % 2 = if b 6 = true then 1 else 0 := t 6 (by omega)
  have t7 : zvb b 0 8 / 128 % 2 = if b 7 = true then 1 else 0 := t 7 (by omega)
  have e : znb b 8 = (if b 7 = true then 1 else 0) + ((if b 6 = true then 1 else 0) + ((if b 5 = true then 1 else 0) + ((if b 4 = true then 1 else 0) + ((if b 3 = true then 1 else 0) + ((if b 2 = true then 1 else 0) + ((if b 1 = true then 1 else 0) + ((if b 0 = true then 1 else 0) + 0))))))) := rfl
  unfold zpop
  rw [e]
  rw [Nat.div_one] at t0
  omega
theorem zvb_lt8 : zvb b 0 8 < 256 := by
  have := zvb_div (b := b) 8 0
  omega
/-- one CUBE -/
theorem z64_C (hv : zV p) (hw : zWo p) (hn : pn p = 1) : (zgL p).length ≤ 64 := by
  obtain ⟨c1, c2⟩ := zPhiC
  have df : zdf (pS p) (fun _ => 1) (pn p) := fun a b c a0 a1 b0 b1 _ _ => by
    obtain rfl : a = 0 := by omega
    obtain rfl : b = 0 := by omega
    omega
  have hF : pF p = 6 := by
    show zFs (pS p) (pn p) = 6
    rw [zFs_cg (by omega) df, hn, c2]
  have ha : ∀ k : Int, 0 ≤ k → k < 24 → pa p k = zac (fun _ => 1) 1 k := fun k k0 k1 => by
    show zac (pS p) (pn p) k = _
    rw [zac_cg (by omega) df (by rw [hn, c2]; omega), hn]
  have I : zIso p (fun k => (k : Int)) 0x51759541349130f38d20b289107185003081 0x18f0ca3442015874c21540113972d254c409 24 := by
    refine ⟨fun k hk => by show (0 : Int) ≤ (k : Int) ∧ (k : Int) < 4 * pF p; rw [hF]; omega, fun k k' _ _ e => by have e : (k : Int) = k' := e; omega, fun k hk => ⟨(c1 k hk).1, ?_⟩⟩
    show ((zq_g 0x18f0ca3442015874c21540113972d254c409 k : Nat) : Int) = pa p k
    rw [ha k (by omega) (by omega)]
    exact (c1 k hk).2
  have cnt := znb_F (b := fun e => pH p (pe p ((zq_g 0x3cd2881c61440c2040 e : Nat) : Int))) hv hw zTabC I (by rw [hF]; rfl) (fun e _ => rfl)
  rw [hF] at cnt
  have run := zq_f_ok (b := fun e => pH p (pe p ((zq_g 0x3cd2881c61440c2040 e : Nat) : Int))) 12 0 5 zrunC (by omega)
  exact zT64 (N := 14) (E := 12) hv hw zTabC I (by rw [hF]; rfl) (by show (14 : Int) = 2 * pF p + 2; rw [hF]; rfl) (by omega) (fun i hi => zvb_bit 12 0 i hi) (fun e _ => rfl) run
theorem zhb {NX NA AC ED ES M E : Nat} {φ : Nat → Int} (hv : zV p) (hT : zTab NX NA AC ED ES M E) (hI : zIso p φ NX AC M) {k : Nat} (hk : k < M) : pH p (pe p (φ (zq_g ES (zq_g ED k)))) = pH p (pe p (φ k)) := by
  obtain ⟨t1, t2, t3, t4, t5, t6⟩ := hT.1 k hk
  have es := (hT.2 _ t4).1
  rcases t6 with t6 | t6
  · rw [← t6]
  · have a := (hI.2.2 _ es).2
    rw [← t6] at a
    have r := hI.1 _ es
    rw [a, ((zV_sk hv).2.1 _ r.1 r.2).2.2.2.2.1]
/-- two CUBES -/
theorem z64_D (hv : zV p) (hw : zWo p) (hn : pn p = 2) : (zgL p).length ≤ 64 := by
  -- where the second one lies
  have hx : ∃ x : Nat, x < 6 ∧ ∀ c, 0 ≤ c → c < 3 → pS p (3 + c) - pS p c = zst x c := by
    have st := hv.2.2.1 1 (by omega) (by omega)
    have o := st.2
    have o1 : z_di (pS p) 1 0 = 1 := by
      rcases o with o | ⟨o, o0, o1, o2⟩
      · omega
      · rw [show o = 0 by omega] at o2
        exact o2
    have o1 : zab (pS p 3 - pS p 0) + zab (pS p 4 - pS p 1) + zab (pS p 5 - pS p 2) = 1 := o1
    unfold zab at o1
    have cs : ∀ x : Nat, x < 6 → pS p 3 - pS p 0 = zst x 0 → pS p 4 - pS p 1 = zst x 1 → pS p 5 - pS p 2 = zst x 2 → ∃ x : Nat, x < 6 ∧ ∀ c, 0 ≤ c → c < 3 → pS p (3 + c) - pS p c = zst x c := fun x hx h0 h1 h2 => ⟨x, hx, fun c c0 c1 => by
      rcases (by omega : c = 0 ∨ c = 1 ∨ c = 2) with rfl | rfl | rfl
      · exact h0
      · exact h1
      · exact h2⟩
    rcases (by omega : (pS p 3 - pS p 0 = 1 ∧ pS p 4 - pS p 1 = 0 ∧ pS p 5 - pS p 2 = 0) ∨ (pS p 3 - pS p 0 = -1 ∧ pS p 4 - pS p 1 = 0 ∧ pS p 5 - pS p 2 = 0) ∨ (pS p 3 - pS p 0 = 0 ∧ pS p 4 - pS p 1 = 1 ∧ pS p 5 - pS p 2 = 0) ∨ (pS p 3 - pS p 0 = 0 ∧ pS p 4 - pS p 1 = -1 ∧ pS p 5 - pS p 2 = 0) ∨ (pS p 3 - pS p 0 = 0 ∧ pS p 4 - pS p 1 = 0 ∧ pS p 5 - pS p 2 = 1) ∨ (pS p 3 - pS p 0 = 0 ∧ pS p 4 - pS p 1 = 0 ∧ pS p 5 - pS p 2 = -1)) with h | h | h | h | h | h
    · exact cs 0 (by omega) h.1 h.2.1 h.2.2
    · exact cs 1 (by omega) h.1 h.2.1 h.2.2
    · exact cs 2 (by omega) h.1 h.2.1 h.2.2
    · exact cs 3 (by omega) h.1 h.2.1 h.2.2
    · exact cs 4 (by omega) h.1 h.2.1 h.2.2
    · exact cs 5 (by omega) h.1 h.2.1 h.2.2
  obtain ⟨x, hx6, hst⟩ := hx
  obtain ⟨c1, c2, c3⟩ := zPhiD x hx6
  have tv : ∀ c, 0 ≤ c → c < 3 → ztd x c = 1 ∧ ztd x (3 + c) = 1 + zst x c := fun c c0 c1 => by
    unfold ztd
    rw [if_pos (by omega), if_neg (by omega), show 3 + c - 3 = c by omega]
    exact ⟨rfl, rfl⟩
  have df : zdf (pS p) (ztd x) (pn p) := fun a b c a0 a1 b0 b1 y0 y1 => by
    have s := hst c y0 y1
    obtain ⟨t1, t2⟩ := tv c y0 y1
    rcases (by omega : a = 0 ∨ a = 1) with rfl | rfl <;> rcases (by omega : b = 0 ∨ b = 1) with rfl | rfl
    · omega
    · rw [show 3 * 0 + c = c by omega, show 3 * 1 + c = 3 + c by omega]
      omega
    · rw [show 3 * 0 + c = c by omega, show 3 * 1 + c = 3 + c by omega]
      omega
    · omega
  have hF : pF p = 10 := by
    show zFs (pS p) (pn p) = 10
    rw [zFs_cg (by omega) df, hn, c3]
  have ha : ∀ k : Int, 0 ≤ k → k < 40 → pa p k = zac (ztd x) 2 k := fun k k0 k1 => by
    show zac (pS p) (pn p) k = _
    rw [zac_cg (by omega) df (by rw [hn, c3]; omega), hn]
  have I1 : zIso p (fun k => ((zq_g (zPH x) k : Nat) : Int)) 0x9279a58238a171f79d61b69951759541349130f38d20b289107185003081 0x45f5da74c6159888d616452195c81908b9c62401224833de0506cd2931ce 40 := by
    refine ⟨fun k hk => by have := (c1 k hk).1; show (0 : Int) ≤ ((zq_g (zPH x) k : Nat) : Int) ∧ ((zq_g (zPH x) k : Nat) : Int) < 4 * pF p; rw [hF]; omega, fun k k' h h' e => c2 k h k' h' (by have e : ((zq_g (zPH x) k : Nat) : Int) = ((zq_g (zPH x) k' : Nat) : Int) := e; omega), fun k hk => ⟨(c1 k hk).2.1, ?_⟩⟩
    show ((zq_g (zPH x) (zq_g 0x45f5da74c6159888d616452195c81908b9c62401224833de0506cd2931ce k) : Nat) : Int) = pa p ((zq_g (zPH x) k : Nat) : Int)
    rw [ha _ (by omega) (by have := (c1 k hk).1; omega)]
    exact (c1 k hk).2.2
  generalize hy : zvb (fun i => pH p (pe p ((zq_g (zPH x) (zq_g 0x5d65540c20407dd69844c2c9206144 (12 + i)) : Nat) : Int))) 0 8 = y
  have y8 : y < 256 := by rw [← hy]; exact zvb_lt8
  obtain ⟨j, hj, hc⟩ := List.any_eq_true.mp (zWlog y y8)
  have j8 : j < 8 := List.mem_range.mp hj
  obtain ⟨u1, u2⟩ := zAutD j j8
  have I : zIso p (fun k => ((zq_g (zPH x) (zq_g (zAU j) k) : Nat) : Int)) 0x9279a58238a171f79d61b69951759541349130f38d20b289107185003081 0x45f5da74c6159888d616452195c81908b9c62401224833de0506cd2931ce 40 := by
    refine ⟨fun k hk => I1.1 _ (u1 k hk).1, fun k k' h h' e => u2 k h k' h' (I1.2.1 _ _ (u1 k h).1 (u1 k' h').1 e), fun k hk => ?_⟩
    obtain ⟨v1, v2, v3⟩ := u1 k hk
    have w := I1.2.2 _ v1
    show ((zq_g (zPH x) (zq_g (zAU j) (zq_g 0x9279a58238a171f79d61b69951759541349130f38d20b289107185003081 k)) : Nat) : Int) = _ ∧ ((zq_g (zPH x) (zq_g (zAU j) (zq_g 0x45f5da74c6159888d616452195c81908b9c62401224833de0506cd2931ce k)) : Nat) : Int) = _
    rw [v2, v3]
    exact w
  have hb : ∀ i, i < 8 → pH p (pe p ((zq_g (zPH x) (zq_g (zAU j) (zq_g 0x5d65540c20407dd69844c2c9206144 (12 + i))) : Nat) : Int)) = Nat.beq (y / 2 ^ (zq_g 0x1cb4c92862112c32920494084d24503851c210c00614f1033420403ce34c (zq_g (zAU j) (zq_g 0x5d65540c20407dd69844c2c9206144 (12 + i))) - 12) % 2) 1 := fun i hi => by
    have k40 := (u1 _ (zTabD.2 (12 + i) (by omega)).1).1
    have lo := zPre j j8 i hi
    have e20 := (zTabD.1 _ k40).2.2.2.1
    have e1 := zhb hv zTabD I1 k40
    have e1 : pH p (pe p ((zq_g (zPH x) (zq_g 0x5d65540c20407dd69844c2c9206144 (zq_g 0x1cb4c92862112c32920494084d24503851c210c00614f1033420403ce34c (zq_g (zAU j) (zq_g 0x5d65540c20407dd69844c2c9206144 (12 + i))))) : Nat) : Int)) = pH p (pe p ((zq_g (zPH x) (zq_g (zAU j) (zq_g 0x5d65540c20407dd69844c2c9206144 (12 + i))) : Nat) : Int)) := e1
    rw [← e1]
    generalize zq_g 0x1cb4c92862112c32920494084d24503851c210c00614f1033420403ce34c (zq_g (zAU j) (zq_g 0x5d65540c20407dd69844c2c9206144 (12 + i))) = q at lo e20
    have bt := zvb_bit (b := fun i => pH p (pe p ((zq_g (zPH x) (zq_g 0x5d65540c20407dd69844c2c9206144 (12 + i)) : Nat) : Int))) 8 0 (q - 12) (by omega)
    rw [hy] at bt
    rw [zb1 (Nat.mod_lt _ (by decide)), bt]
    show pH p (pe p ((zq_g (zPH x) (zq_g 0x5d65540c20407dd69844c2c9206144 q) : Nat) : Int)) = decide ((if pH p (pe p ((zq_g (zPH x) (zq_g 0x5d65540c20407dd69844c2c9206144 (12 + (q - 12))) : Nat) : Int)) = true then 1 else 0) = 1)
    rw [show 12 + (q - 12) = q by omega]
    cases pH p (pe p ((zq_g (zPH x) (zq_g 0x5d65540c20407dd69844c2c9206144 q) : Nat) : Int)) <;> rfl
  have pre : zvb (fun i => (fun e => pH p (pe p ((zq_g (zPH x) (zq_g (zAU j) (zq_g 0x5d65540c20407dd69844c2c9206144 e)) : Nat) : Int))) (12 + i)) 0 8 ∈ zreps := by
    rw [zvb_cg 8 0 hb]
    exact List.contains_iff_mem.mp hc
  have run1 := zruns _ pre
  have cnt := znb_F (b := fun e => pH p (pe p ((zq_g (zPH x) (zq_g (zAU j) (zq_g 0x5d65540c20407dd69844c2c9206144 e)) : Nat) : Int))) hv hw zTabD I (by rw [hF]; rfl) (fun e _ => rfl)
  rw [hF] at cnt
  have add : znb (fun e => pH p (pe p ((zq_g (zPH x) (zq_g (zAU j) (zq_g 0x5d65540c20407dd69844c2c9206144 e)) : Nat) : Int))) 20 = znb (fun i => pH p (pe p ((zq_g (zPH x) (zq_g (zAU j) (zq_g 0x5d65540c20407dd69844c2c9206144 (12 + i))) : Nat) : Int))) 8 + znb (fun e => pH p (pe p ((zq_g (zPH x) (zq_g (zAU j) (zq_g 0x5d65540c20407dd69844c2c9206144 e)) : Nat) : Int))) 12 := znb_add (b := fun e => pH p (pe p ((zq_g (zPH x) (zq_g (zAU j) (zq_g 0x5d65540c20407dd69844c2c9206144 e)) : Nat) : Int))) 8 12
  rw [zpop_b] at run1
  have cn : znb (fun e => pH p (pe p ((zq_g (zPH x) (zq_g (zAU j) (zq_g 0x5d65540c20407dd69844c2c9206144 e)) : Nat) : Int))) 12 = 9 - znb (fun i => pH p (pe p ((zq_g (zPH x) (zq_g (zAU j) (zq_g 0x5d65540c20407dd69844c2c9206144 (12 + i))) : Nat) : Int))) 8 := by omega
  have run := zq_f_ok (b := fun e => pH p (pe p ((zq_g (zPH x) (zq_g (zAU j) (zq_g 0x5d65540c20407dd69844c2c9206144 e)) : Nat) : Int))) 12 _ _ run1 cn
  rw [← zvb_add 8 12 0] at run
  exact zT64 (N := 22) (E := 20) hv hw zTabD I (by rw [hF]; rfl) (by show (22 : Int) = 2 * pF p + 2; rw [hF]; rfl) (by omega) (fun i hi => zvb_bit 20 0 i hi) (fun e _ => rfl) run
theorem z64_all (hv : zV p) : z64 p := fun hw h22 => by
  have h22 : 2 * pF p + 2 ≤ 22 := h22
  have n7 := hv.1
  rcases (by omega : pn p = 0 ∨ pn p = 1 ∨ pn p = 2 ∨ 3 ≤ pn p) with h | h | h | h
  · have : pF p = 0 := by
      show zFs (pS p) (pn p) = 0
      rw [h]
      rfl
    have := hw.1
    omega
  · exact z64_C hv hw h
  · exact z64_D hv hw h
  · have : 12 ≤ pF p := zF_12 ⟨h, n7.2⟩ hv.2.1 hv.2.2.1
    omega
end A64

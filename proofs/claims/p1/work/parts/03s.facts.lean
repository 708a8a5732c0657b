theorem z_nz {x : Int} {k : Nat} (h : z_kd x = k) (hk : k < 99 := by decide) : x ≠ 0 := by
  have := (z_isn h hk).1
  omega
section ZX
variable {M M' : z_M} {pc : Nat} {lo lo' : List (Option z_V)} {sk : List z_V} {μ : z_Mem} {d : Nat} {Q : Option z_V → z_Mem → Prop} {a b x y o i L m : Int}
theorem z_eqv (h : x = y) (k : z_R M pc lo ((0, y) :: sk) z_n μ d Q) : z_R M pc lo ((0, x) :: sk) z_n μ d Q := by
  subst h
  exact k
theorem n_vI {idx n kc : Nat} {as rest : List z_V} {K' : Int → z_Mem → Prop} (hd : decode M.2.1 pc = .ok (.invokevirtual idx, 3)) (hM : z_MF M' n) (hL : z_VL M.1.cls idx M' kc) (ho : z_kd o = kc) (hkc : kc < 99) (hsk : sk = as.reverse ++ (2, o) :: rest) (hn : as.length = n) (hlen : (z_en ((2, o) :: as)).length ≤ M'.2.2.1) (hcat : (rest.map z_cat).sum ≤ 8)
    (h : z_ci M' ((2, o) :: as) μ d K') (k : ∀ x μ1, K' x μ1 → z_R M (pc + 3) lo ((0, x) :: rest) z_n μ1 (d + 1) Q) : z_R M pc lo sk z_n μ (d + 1) Q := by
  refine z_invV 147 hd hM hL (z_isn ho hkc) hsk hn hlen hcat (by decide) (by decide) (Or.inl rfl) (z_R_mono h ?_)
  rintro r μ1 ⟨x, rfl, h1⟩
  exact k x μ1 h1
theorem n_vL {idx n kc : Nat} {as rest : List z_V} {K' : Int → z_Mem → Prop} (hd : decode M.2.1 pc = .ok (.invokevirtual idx, 3)) (hM : z_MF M' n) (hL : z_VL M.1.cls idx M' kc) (ho : z_kd o = kc) (hkc : kc < 99) (hsk : sk = as.reverse ++ (2, o) :: rest) (hn : as.length = n) (hlen : (z_en ((2, o) :: as)).length ≤ M'.2.2.1) (hcat : (rest.map z_cat).sum ≤ 8)
    (h : z_cl' M' ((2, o) :: as) μ d K') (k : ∀ x μ1, K' x μ1 → z_R M (pc + 3) lo ((1, x) :: rest) z_n μ1 (d + 1) Q) : z_R M pc lo sk z_n μ (d + 1) Q := by
  refine z_invV 147 hd hM hL (z_isn ho hkc) hsk hn hlen hcat (by decide) (by decide) (Or.inl rfl) (z_R_mono h ?_)
  rintro r μ1 ⟨x, rfl, h1⟩
  exact k x μ1 h1
theorem n_vN {idx n kc : Nat} {as rest : List z_V} {K' : z_Mem → Prop} (hd : decode M.2.1 pc = .ok (.invokevirtual idx, 3)) (hM : z_MF M' n) (hL : z_VL M.1.cls idx M' kc) (ho : z_kd o = kc) (hkc : kc < 99) (hsk : sk = as.reverse ++ (2, o) :: rest) (hn : as.length = n) (hlen : (z_en ((2, o) :: as)).length ≤ M'.2.2.1) (hcat : (rest.map z_cat).sum ≤ 8)
    (h : z_cn M' ((2, o) :: as) μ d K') (k : ∀ μ1, K' μ1 → z_R M (pc + 3) lo rest z_n μ1 (d + 1) Q) : z_R M pc lo sk z_n μ (d + 1) Q := by
  refine z_invV 147 hd hM hL (z_isn ho hkc) hsk hn hlen hcat (by decide) (by decide) (Or.inl rfl) (z_R_mono h ?_)
  rintro r μ1 ⟨rfl, h1⟩
  exact k μ1 h1
theorem n_sI {idx n : Nat} {as rest : List z_V} {K' : Int → z_Mem → Prop} (hd : decode M.2.1 pc = .ok (.invokestatic idx, 3)) (hM : z_MF M' n) (hL : z_SL M.1.cls idx M') (hsk : sk = as.reverse ++ rest) (hn : as.length = n) (hlen : (z_en as).length ≤ M'.2.2.1) (hcat : (rest.map z_cat).sum ≤ 8)
    (h : z_ci M' as μ d K') (k : ∀ x μ1, K' x μ1 → z_R M (pc + 3) lo ((0, x) :: rest) z_n μ1 (d + 1) Q) : z_R M pc lo sk z_n μ (d + 1) Q := by
  refine z_invS 147 hd hM hL hsk hn hlen hcat (by decide) (by decide) (Or.inl rfl) (z_R_mono h ?_)
  rintro r μ1 ⟨x, rfl, h1⟩
  exact k x μ1 h1
theorem n_sN {idx n : Nat} {as rest : List z_V} {K' : z_Mem → Prop} (hd : decode M.2.1 pc = .ok (.invokestatic idx, 3)) (hM : z_MF M' n) (hL : z_SL M.1.cls idx M') (hsk : sk = as.reverse ++ rest) (hn : as.length = n) (hlen : (z_en as).length ≤ M'.2.2.1) (hcat : (rest.map z_cat).sum ≤ 8)
    (h : z_cn M' as μ d K') (k : ∀ μ1, K' μ1 → z_R M (pc + 3) lo rest z_n μ1 (d + 1) Q) : z_R M pc lo sk z_n μ (d + 1) Q := by
  refine z_invS 147 hd hM hL hsk hn hlen hcat (by decide) (by decide) (Or.inl rfl) (z_R_mono h ?_)
  rintro r μ1 ⟨rfl, h1⟩
  exact k μ1 h1
theorem n_snI {idx n : Nat} {host : String} {as rest : List z_V} {K' : Int → z_Mem → Prop} (hd : decode M.2.1 pc = .ok (.invokestatic idx, 3)) (hM : z_MF M' n) (hL : Cond.methodLinkNest M.1.cls idx M'.1 host ∈ z_nw) (hS : Cond.static M'.1 ∈ z_gw) (hsk : sk = as.reverse ++ rest) (hn : as.length = n) (hlen : (z_en as).length ≤ M'.2.2.1) (hcat : (rest.map z_cat).sum ≤ 8)
    (h : z_ci M' as μ d K') (k : ∀ x μ1, K' x μ1 → z_R M (pc + 3) lo ((0, x) :: rest) z_n μ1 (d + 1) Q) : z_R M pc lo sk z_n μ (d + 1) Q := by
  refine z_invSN 147 hd hM hL hS hsk hn hlen hcat (by decide) (by decide) (Or.inl rfl) (z_R_mono h ?_)
  rintro r μ1 ⟨x, rfl, h1⟩
  exact k x μ1 h1
theorem n_iushrh (hd : decode M.2.1 pc = .ok (.iushr, 1)) (h0 : 0 ≤ b ∧ b < 32) (h : z_R M (pc + 1) lo ((0, Int.bmod (a % 4294967296 / 2 ^ b.toNat) 4294967296) :: sk) z_n μ d Q) : z_R M pc lo ((0, b) :: (0, a) :: sk) z_n μ d Q := by
  intro p l e R s m args below meth c H locs cells slots D cy ad A ls hC hG hr hh hl ha hb hk
  obtain ⟨hb1, ha1, ha⟩ := ha
  have h1 := h p l e R s m args below meth c H locs cells slots D cy ad A ls hC hG hr hh hl ⟨z_wI _, ha⟩ hb hk
  refine lv_iushr hC.1 hC.2.1 hd ?_ h1
  rw [z_ushr32g ha1 h0.1 h0.2]
  exact Int32.toInt_inj.mp (by rw [Int32.toInt_ofInt, Int32.toInt_ofInt]; exact Int.bmod_bmod.symm)
theorem n_iaddw (hd : decode M.2.1 pc = .ok (.iadd, 1)) (h : z_R M (pc + 1) lo ((0, Int.bmod (a + b) 4294967296) :: sk) z_n μ d Q) : z_R M pc lo ((0, b) :: (0, a) :: sk) z_n μ d Q := by
  intro p l e R s m args below meth c H locs cells slots D cy ad A ls hC hG hr hh hl ha hb hk
  obtain ⟨hb1, ha1, ha⟩ := ha
  have h1 := h p l e R s m args below meth c H locs cells slots D cy ad A ls hC hG hr hh hl ⟨z_wI _, ha⟩ hb hk
  have e1 : Int32.ofInt (Int.bmod (a + b) 4294967296) = Int32.ofInt (a + b) := Int32.toInt_inj.mp (by rw [Int32.toInt_ofInt, Int32.toInt_ofInt]; exact Int.bmod_bmod)
  rw [List.map_cons, show z_val ad (0, Int.bmod (a + b) 4294967296) = .int (Int32.ofInt a + Int32.ofInt b) from congrArg Value.int (by rw [e1, Int32.ofInt_add])] at h1
  exact lv_iadd hC.1 hC.2.1 hd h1
theorem z_lookup2 {dflt k0 k1 o0 o1 : Int} {len : Nat} {t0 t1 td : Nat} (hd : decode M.2.1 pc = .ok (.lookupswitch dflt #[(k0, o0), (k1, o1)], len)) (hk : k0 < k1) (h0 : (pc : Int) + o0 = (t0 : Int)) (h1 : (pc : Int) + o1 = (t1 : Int)) (h2 : (pc : Int) + dflt = (td : Int))
    (g0 : a = k0 → z_R M t0 lo sk z_n μ d Q) (g1 : a = k1 → z_R M t1 lo sk z_n μ d Q) (g2 : ¬ a = k0 ∧ ¬ a = k1 → z_R M td lo sk z_n μ d Q) : z_R M pc lo ((0, a) :: sk) z_n μ d Q := by
  refine z_lookup hd (by simp [hk]) td (fun x => if x = k0 then t0 else if x = k1 then t1 else td) (fun x => ?_) ?_
  · simp only [Op.lookupswitch.offset]
    by_cases e0 : x = k0
    · subst e0
      simp [h0]
    · by_cases e1 : x = k1
      · subst e1
        simp [e0, h1, Ne.symm e0]
      · simp [e0, e1, h2, Ne.symm e0, Ne.symm e1]
  · by_cases e0 : a = k0
    · simp only [e0, if_true]
      exact g0 e0
    · by_cases e1 : a = k1
      · simp only [e1, if_true]
        rw [if_neg (by omega)]
        exact g1 e1
      · simp only [e0, e1, if_false]
        exact g2 ⟨e0, e1⟩
end ZX
theorem k_1 : z_kd 1 = 11 := by decide +kernel
theorem p_1_0 : z_isP 1 0 = true ∧ z_P 1 0 = 2 := by decide +kernel
theorem p_1_2 : z_isP 1 2 = true ∧ z_P 1 2 = 3 := by decide +kernel
theorem p_1_3 : z_isP 1 3 = true ∧ z_P 1 3 = 6 := by decide +kernel
theorem p_1_4 : z_isP 1 4 = true ∧ z_P 1 4 = 21 := by decide +kernel
theorem p_1_5 : z_isP 1 5 = true ∧ z_P 1 5 = 23 := by decide +kernel
theorem p_1_6 : z_isP 1 6 = true ∧ z_P 1 6 = 29 := by decide +kernel
theorem p_1_7 : z_isP 1 7 = true ∧ z_P 1 7 = 31 := by decide +kernel
theorem p_1_8 : z_isP 1 8 = true ∧ z_P 1 8 = 39 := by decide +kernel
theorem p_1_9 : z_isP 1 9 = true ∧ z_P 1 9 = 44 := by decide +kernel
theorem p_1_10 : z_isP 1 10 = true ∧ z_P 1 10 = 75 := by decide +kernel
theorem p_1_11 : z_isP 1 11 = true ∧ z_P 1 11 = 80 := by decide +kernel
theorem p_1_12 : z_isP 1 12 = true ∧ z_P 1 12 = 102 := by decide +kernel
theorem k_2 : z_kd 2 = 14 ∧ z_ln 2 = 200 := by decide +kernel
theorem k_3 : z_kd 3 = 4 := by decide +kernel
theorem p_3_0 : z_isP 3 0 = true ∧ z_P 3 0 = 4 := by decide +kernel
theorem k_4 : z_kd 4 = 14 ∧ z_ln 4 = 21 := by decide +kernel
theorem k_5 : z_kd 5 = 14 ∧ z_ln 5 = 0 := by decide +kernel
theorem k_6 : z_kd 6 = 9 := by decide +kernel
theorem p_6_1 : z_isP 6 1 = true ∧ z_P 6 1 = 7 := by decide +kernel
theorem p_6_3 : z_isP 6 3 = true ∧ z_P 6 3 = 8 := by decide +kernel
theorem p_6_4 : z_isP 6 4 = true ∧ z_P 6 4 = 9 := by decide +kernel
theorem p_6_5 : z_isP 6 5 = true ∧ z_P 6 5 = 10 := by decide +kernel
theorem p_6_6 : z_isP 6 6 = true ∧ z_P 6 6 = 11 := by decide +kernel
theorem p_6_7 : z_isP 6 7 = true ∧ z_P 6 7 = 12 := by decide +kernel
theorem p_6_9 : z_isP 6 9 = true ∧ z_P 6 9 = 13 := by decide +kernel
theorem p_6_10 : z_isP 6 10 = true ∧ z_P 6 10 = 14 := by decide +kernel
theorem p_6_12 : z_isP 6 12 = true ∧ z_P 6 12 = 15 := by decide +kernel
theorem p_6_13 : z_isP 6 13 = true ∧ z_P 6 13 = 16 := by decide +kernel
theorem p_6_14 : z_isP 6 14 = true ∧ z_P 6 14 = 17 := by decide +kernel
theorem p_6_15 : z_isP 6 15 = true ∧ z_P 6 15 = 18 := by decide +kernel
theorem p_6_16 : z_isP 6 16 = true ∧ z_P 6 16 = 19 := by decide +kernel
theorem p_6_17 : z_isP 6 17 = true ∧ z_P 6 17 = 20 := by decide +kernel
theorem k_7 : z_kd 7 = 14 ∧ z_ln 7 = 21 := by decide +kernel
theorem k_8 : z_kd 8 = 14 ∧ z_ln 8 = 42 := by decide +kernel
theorem k_9 : z_kd 9 = 14 ∧ z_ln 9 = 30 := by decide +kernel
theorem k_10 : z_kd 10 = 14 ∧ z_ln 10 = 30 := by decide +kernel
theorem k_11 : z_kd 11 = 14 ∧ z_ln 11 = 120 := by decide +kernel
theorem k_12 : z_kd 12 = 14 ∧ z_ln 12 = 120 := by decide +kernel
theorem k_13 : z_kd 13 = 14 ∧ z_ln 13 = 120 := by decide +kernel
theorem k_14 : z_kd 14 = 14 ∧ z_ln 14 = 60 := by decide +kernel
theorem k_15 : z_kd 15 = 14 ∧ z_ln 15 = 120 := by decide +kernel
theorem k_16 : z_kd 16 = 14 ∧ z_ln 16 = 120 := by decide +kernel
theorem k_17 : z_kd 17 = 14 ∧ z_ln 17 = 30 := by decide +kernel
theorem k_18 : z_kd 18 = 14 ∧ z_ln 18 = 30 := by decide +kernel
theorem k_19 : z_kd 19 = 14 ∧ z_ln 19 = 30 := by decide +kernel
theorem k_20 : z_kd 20 = 14 ∧ z_ln 20 = 30 := by decide +kernel
theorem k_21 : z_kd 21 = 3 := by decide +kernel
theorem p_21_2 : z_isP 21 2 = true ∧ z_P 21 2 = 22 := by decide +kernel
theorem k_22 : z_kd 22 = 14 ∧ z_ln 22 = 60 := by decide +kernel
theorem k_23 : z_kd 23 = 6 := by decide +kernel
theorem p_23_0 : z_isP 23 0 = true ∧ z_P 23 0 = 24 := by decide +kernel
theorem p_23_1 : z_isP 23 1 = true ∧ z_P 23 1 = 25 := by decide +kernel
theorem p_23_2 : z_isP 23 2 = true ∧ z_P 23 2 = 26 := by decide +kernel
theorem p_23_3 : z_isP 23 3 = true ∧ z_P 23 3 = 27 := by decide +kernel
theorem p_23_4 : z_isP 23 4 = true ∧ z_P 23 4 = 28 := by decide +kernel
theorem k_24 : z_kd 24 = 14 ∧ z_ln 24 = 30 := by decide +kernel
theorem k_25 : z_kd 25 = 14 ∧ z_ln 25 = 30 := by decide +kernel
theorem k_26 : z_kd 26 = 14 ∧ z_ln 26 = 30 := by decide +kernel
theorem k_27 : z_kd 27 = 14 ∧ z_ln 27 = 30 := by decide +kernel
theorem k_28 : z_kd 28 = 14 ∧ z_ln 28 = 30 := by decide +kernel
theorem k_29 : z_kd 29 = 10 := by decide +kernel
theorem p_29_4 : z_isP 29 4 = true ∧ z_P 29 4 = 30 := by decide +kernel
theorem p_29_5 : z_isP 29 5 = true ∧ z_P 29 5 = 6 := by decide +kernel
theorem p_29_6 : z_isP 29 6 = true ∧ z_P 29 6 = 23 := by decide +kernel
theorem k_30 : z_kd 30 = 15 ∧ z_ln 30 = 64 := by decide +kernel
theorem k_31 : z_kd 31 = 5 := by decide +kernel
theorem p_31_1 : z_isP 31 1 = true ∧ z_P 31 1 = 32 := by decide +kernel
theorem p_31_2 : z_isP 31 2 = true ∧ z_P 31 2 = 38 := by decide +kernel
theorem k_32 : z_kd 32 = 6 := by decide +kernel
theorem p_32_0 : z_isP 32 0 = true ∧ z_P 32 0 = 33 := by decide +kernel
theorem p_32_1 : z_isP 32 1 = true ∧ z_P 32 1 = 34 := by decide +kernel
theorem p_32_2 : z_isP 32 2 = true ∧ z_P 32 2 = 35 := by decide +kernel
theorem p_32_3 : z_isP 32 3 = true ∧ z_P 32 3 = 36 := by decide +kernel
theorem p_32_4 : z_isP 32 4 = true ∧ z_P 32 4 = 37 := by decide +kernel
theorem k_33 : z_kd 33 = 14 ∧ z_ln 33 = 30 := by decide +kernel
theorem k_34 : z_kd 34 = 14 ∧ z_ln 34 = 30 := by decide +kernel
theorem k_35 : z_kd 35 = 14 ∧ z_ln 35 = 30 := by decide +kernel
theorem k_36 : z_kd 36 = 14 ∧ z_ln 36 = 30 := by decide +kernel
theorem k_37 : z_kd 37 = 14 ∧ z_ln 37 = 30 := by decide +kernel
theorem k_38 : z_kd 38 = 14 ∧ z_ln 38 = 60 := by decide +kernel
theorem k_39 : z_kd 39 = 0 := by decide +kernel
theorem p_39_2 : z_isP 39 2 = true ∧ z_P 39 2 = 40 := by decide +kernel
theorem p_39_3 : z_isP 39 3 = true ∧ z_P 39 3 = 41 := by decide +kernel
theorem p_39_4 : z_isP 39 4 = true ∧ z_P 39 4 = 42 := by decide +kernel
theorem p_39_5 : z_isP 39 5 = true ∧ z_P 39 5 = 43 := by decide +kernel
theorem k_40 : z_kd 40 = 14 ∧ z_ln 40 = 62 := by decide +kernel
theorem k_41 : z_kd 41 = 14 ∧ z_ln 41 = 62 := by decide +kernel
theorem k_42 : z_kd 42 = 14 ∧ z_ln 42 = 62 := by decide +kernel
theorem k_43 : z_kd 43 = 14 ∧ z_ln 43 = 120 := by decide +kernel
theorem k_44 : z_kd 44 = 1 := by decide +kernel
theorem p_44_2 : z_isP 44 2 = true ∧ z_P 44 2 = 45 := by decide +kernel
theorem p_44_4 : z_isP 44 4 = true ∧ z_P 44 4 = 46 := by decide +kernel
theorem p_44_5 : z_isP 44 5 = true ∧ z_P 44 5 = 47 := by decide +kernel
theorem p_44_6 : z_isP 44 6 = true ∧ z_P 44 6 = 48 := by decide +kernel
theorem p_44_7 : z_isP 44 7 = true ∧ z_P 44 7 = 49 := by decide +kernel
theorem p_44_8 : z_isP 44 8 = true ∧ z_P 44 8 = 62 := by decide +kernel
theorem k_45 : z_kd 45 = 14 ∧ z_ln 45 = 22 := by decide +kernel
theorem k_46 : z_kd 46 = 14 ∧ z_ln 46 = 64 := by decide +kernel
theorem k_47 : z_kd 47 = 14 ∧ z_ln 47 = 12 := by decide +kernel
theorem k_48 : z_kd 48 = 14 ∧ z_ln 48 = 12 := by decide +kernel
theorem k_49 : z_kd 49 = 19 ∧ z_ln 49 = 12 := by decide +kernel
theorem p_49_0 : z_isP 49 0 = true ∧ z_P 49 0 = 50 := by decide +kernel
theorem p_49_1 : z_isP 49 1 = true ∧ z_P 49 1 = 51 := by decide +kernel
theorem p_49_2 : z_isP 49 2 = true ∧ z_P 49 2 = 52 := by decide +kernel
theorem p_49_3 : z_isP 49 3 = true ∧ z_P 49 3 = 53 := by decide +kernel
theorem p_49_4 : z_isP 49 4 = true ∧ z_P 49 4 = 54 := by decide +kernel
theorem p_49_5 : z_isP 49 5 = true ∧ z_P 49 5 = 55 := by decide +kernel
theorem p_49_6 : z_isP 49 6 = true ∧ z_P 49 6 = 56 := by decide +kernel
theorem p_49_7 : z_isP 49 7 = true ∧ z_P 49 7 = 57 := by decide +kernel
theorem p_49_8 : z_isP 49 8 = true ∧ z_P 49 8 = 58 := by decide +kernel
theorem p_49_9 : z_isP 49 9 = true ∧ z_P 49 9 = 59 := by decide +kernel
theorem p_49_10 : z_isP 49 10 = true ∧ z_P 49 10 = 60 := by decide +kernel
theorem p_49_11 : z_isP 49 11 = true ∧ z_P 49 11 = 61 := by decide +kernel
theorem k_50 : z_kd 50 = 14 ∧ z_ln 50 = 22 := by decide +kernel
theorem k_51 : z_kd 51 = 14 ∧ z_ln 51 = 22 := by decide +kernel
theorem k_52 : z_kd 52 = 14 ∧ z_ln 52 = 22 := by decide +kernel
theorem k_53 : z_kd 53 = 14 ∧ z_ln 53 = 22 := by decide +kernel
theorem k_54 : z_kd 54 = 14 ∧ z_ln 54 = 22 := by decide +kernel
theorem k_55 : z_kd 55 = 14 ∧ z_ln 55 = 22 := by decide +kernel
theorem k_56 : z_kd 56 = 14 ∧ z_ln 56 = 22 := by decide +kernel
theorem k_57 : z_kd 57 = 14 ∧ z_ln 57 = 22 := by decide +kernel
theorem k_58 : z_kd 58 = 14 ∧ z_ln 58 = 22 := by decide +kernel
theorem k_59 : z_kd 59 = 14 ∧ z_ln 59 = 22 := by decide +kernel
theorem k_60 : z_kd 60 = 14 ∧ z_ln 60 = 22 := by decide +kernel
theorem k_61 : z_kd 61 = 14 ∧ z_ln 61 = 22 := by decide +kernel
theorem k_62 : z_kd 62 = 19 ∧ z_ln 62 = 12 := by decide +kernel
theorem p_62_0 : z_isP 62 0 = true ∧ z_P 62 0 = 63 := by decide +kernel
theorem p_62_1 : z_isP 62 1 = true ∧ z_P 62 1 = 64 := by decide +kernel
theorem p_62_2 : z_isP 62 2 = true ∧ z_P 62 2 = 65 := by decide +kernel
theorem p_62_3 : z_isP 62 3 = true ∧ z_P 62 3 = 66 := by decide +kernel
theorem p_62_4 : z_isP 62 4 = true ∧ z_P 62 4 = 67 := by decide +kernel
theorem p_62_5 : z_isP 62 5 = true ∧ z_P 62 5 = 68 := by decide +kernel
theorem p_62_6 : z_isP 62 6 = true ∧ z_P 62 6 = 69 := by decide +kernel
theorem p_62_7 : z_isP 62 7 = true ∧ z_P 62 7 = 70 := by decide +kernel
theorem p_62_8 : z_isP 62 8 = true ∧ z_P 62 8 = 71 := by decide +kernel
theorem p_62_9 : z_isP 62 9 = true ∧ z_P 62 9 = 72 := by decide +kernel
theorem p_62_10 : z_isP 62 10 = true ∧ z_P 62 10 = 73 := by decide +kernel
theorem p_62_11 : z_isP 62 11 = true ∧ z_P 62 11 = 74 := by decide +kernel
theorem k_63 : z_kd 63 = 14 ∧ z_ln 63 = 22 := by decide +kernel
theorem k_64 : z_kd 64 = 14 ∧ z_ln 64 = 22 := by decide +kernel
theorem k_65 : z_kd 65 = 14 ∧ z_ln 65 = 22 := by decide +kernel
theorem k_66 : z_kd 66 = 14 ∧ z_ln 66 = 22 := by decide +kernel
theorem k_67 : z_kd 67 = 14 ∧ z_ln 67 = 22 := by decide +kernel
theorem k_68 : z_kd 68 = 14 ∧ z_ln 68 = 22 := by decide +kernel
theorem k_69 : z_kd 69 = 14 ∧ z_ln 69 = 22 := by decide +kernel
theorem k_70 : z_kd 70 = 14 ∧ z_ln 70 = 22 := by decide +kernel
theorem k_71 : z_kd 71 = 14 ∧ z_ln 71 = 22 := by decide +kernel
theorem k_72 : z_kd 72 = 14 ∧ z_ln 72 = 22 := by decide +kernel
theorem k_73 : z_kd 73 = 14 ∧ z_ln 73 = 22 := by decide +kernel
theorem k_74 : z_kd 74 = 14 ∧ z_ln 74 = 22 := by decide +kernel
theorem k_75 : z_kd 75 = 8 := by decide +kernel
theorem p_75_1 : z_isP 75 1 = true ∧ z_P 75 1 = 76 := by decide +kernel
theorem p_75_2 : z_isP 75 2 = true ∧ z_P 75 2 = 77 := by decide +kernel
theorem p_75_3 : z_isP 75 3 = true ∧ z_P 75 3 = 78 := by decide +kernel
theorem p_75_4 : z_isP 75 4 = true ∧ z_P 75 4 = 79 := by decide +kernel
theorem k_76 : z_kd 76 = 14 ∧ z_ln 76 = 30 := by decide +kernel
theorem k_77 : z_kd 77 = 14 ∧ z_ln 77 = 30 := by decide +kernel
theorem k_78 : z_kd 78 = 14 ∧ z_ln 78 = 30 := by decide +kernel
theorem k_79 : z_kd 79 = 14 ∧ z_ln 79 = 30 := by decide +kernel
theorem k_80 : z_kd 80 = 2 := by decide +kernel
theorem p_80_2 : z_isP 80 2 = true ∧ z_P 80 2 = 81 := by decide +kernel
theorem k_81 : z_kd 81 = 17 ∧ z_ln 81 = 10 := by decide +kernel
theorem p_81_0 : z_isP 81 0 = true ∧ z_P 81 0 = 82 := by decide +kernel
theorem p_81_1 : z_isP 81 1 = true ∧ z_P 81 1 = 84 := by decide +kernel
theorem p_81_2 : z_isP 81 2 = true ∧ z_P 81 2 = 86 := by decide +kernel
theorem p_81_3 : z_isP 81 3 = true ∧ z_P 81 3 = 88 := by decide +kernel
theorem p_81_4 : z_isP 81 4 = true ∧ z_P 81 4 = 90 := by decide +kernel
theorem p_81_5 : z_isP 81 5 = true ∧ z_P 81 5 = 92 := by decide +kernel
theorem p_81_6 : z_isP 81 6 = true ∧ z_P 81 6 = 94 := by decide +kernel
theorem p_81_7 : z_isP 81 7 = true ∧ z_P 81 7 = 96 := by decide +kernel
theorem p_81_8 : z_isP 81 8 = true ∧ z_P 81 8 = 98 := by decide +kernel
theorem p_81_9 : z_isP 81 9 = true ∧ z_P 81 9 = 100 := by decide +kernel
theorem k_82 : z_kd 82 = 3 := by decide +kernel
theorem p_82_2 : z_isP 82 2 = true ∧ z_P 82 2 = 83 := by decide +kernel
theorem k_83 : z_kd 83 = 14 ∧ z_ln 83 = 60 := by decide +kernel
theorem k_84 : z_kd 84 = 3 := by decide +kernel
theorem p_84_2 : z_isP 84 2 = true ∧ z_P 84 2 = 85 := by decide +kernel
theorem k_85 : z_kd 85 = 14 ∧ z_ln 85 = 60 := by decide +kernel
theorem k_86 : z_kd 86 = 3 := by decide +kernel
theorem p_86_2 : z_isP 86 2 = true ∧ z_P 86 2 = 87 := by decide +kernel
theorem k_87 : z_kd 87 = 14 ∧ z_ln 87 = 60 := by decide +kernel
theorem k_88 : z_kd 88 = 3 := by decide +kernel
theorem p_88_2 : z_isP 88 2 = true ∧ z_P 88 2 = 89 := by decide +kernel
theorem k_89 : z_kd 89 = 14 ∧ z_ln 89 = 60 := by decide +kernel
theorem k_90 : z_kd 90 = 3 := by decide +kernel
theorem p_90_2 : z_isP 90 2 = true ∧ z_P 90 2 = 91 := by decide +kernel
theorem k_91 : z_kd 91 = 14 ∧ z_ln 91 = 60 := by decide +kernel
theorem k_92 : z_kd 92 = 3 := by decide +kernel
theorem p_92_2 : z_isP 92 2 = true ∧ z_P 92 2 = 93 := by decide +kernel
theorem k_93 : z_kd 93 = 14 ∧ z_ln 93 = 60 := by decide +kernel
theorem k_94 : z_kd 94 = 3 := by decide +kernel
theorem p_94_2 : z_isP 94 2 = true ∧ z_P 94 2 = 95 := by decide +kernel
theorem k_95 : z_kd 95 = 14 ∧ z_ln 95 = 60 := by decide +kernel
theorem k_96 : z_kd 96 = 3 := by decide +kernel
theorem p_96_2 : z_isP 96 2 = true ∧ z_P 96 2 = 97 := by decide +kernel
theorem k_97 : z_kd 97 = 14 ∧ z_ln 97 = 60 := by decide +kernel
theorem k_98 : z_kd 98 = 3 := by decide +kernel
theorem p_98_2 : z_isP 98 2 = true ∧ z_P 98 2 = 99 := by decide +kernel
theorem k_99 : z_kd 99 = 14 ∧ z_ln 99 = 60 := by decide +kernel
theorem k_100 : z_kd 100 = 3 := by decide +kernel
theorem p_100_2 : z_isP 100 2 = true ∧ z_P 100 2 = 101 := by decide +kernel
theorem k_101 : z_kd 101 = 14 ∧ z_ln 101 = 60 := by decide +kernel
theorem k_102 : z_kd 102 = 18 ∧ z_ln 102 = 2 := by decide +kernel
theorem p_102_0 : z_isP 102 0 = true ∧ z_P 102 0 = 103 := by decide +kernel
theorem p_102_1 : z_isP 102 1 = true ∧ z_P 102 1 = 108 := by decide +kernel
theorem k_103 : z_kd 103 = 7 := by decide +kernel
theorem p_103_2 : z_isP 103 2 = true ∧ z_P 103 2 = 104 := by decide +kernel
theorem p_103_3 : z_isP 103 3 = true ∧ z_P 103 3 = 105 := by decide +kernel
theorem p_103_5 : z_isP 103 5 = true ∧ z_P 103 5 = 107 := by decide +kernel
theorem k_104 : z_kd 104 = 14 ∧ z_ln 104 = 21 := by decide +kernel
theorem k_105 : z_kd 105 = 3 := by decide +kernel
theorem p_105_2 : z_isP 105 2 = true ∧ z_P 105 2 = 106 := by decide +kernel
theorem k_106 : z_kd 106 = 14 ∧ z_ln 106 = 60 := by decide +kernel
theorem k_107 : z_kd 107 = 14 ∧ z_ln 107 = 30 := by decide +kernel
theorem k_108 : z_kd 108 = 7 := by decide +kernel
theorem p_108_2 : z_isP 108 2 = true ∧ z_P 108 2 = 109 := by decide +kernel
theorem p_108_3 : z_isP 108 3 = true ∧ z_P 108 3 = 110 := by decide +kernel
theorem p_108_5 : z_isP 108 5 = true ∧ z_P 108 5 = 112 := by decide +kernel
theorem k_109 : z_kd 109 = 14 ∧ z_ln 109 = 21 := by decide +kernel
theorem k_110 : z_kd 110 = 3 := by decide +kernel
theorem p_110_2 : z_isP 110 2 = true ∧ z_P 110 2 = 111 := by decide +kernel
theorem k_111 : z_kd 111 = 14 ∧ z_ln 111 = 60 := by decide +kernel
theorem k_112 : z_kd 112 = 14 ∧ z_ln 112 = 30 := by decide +kernel
theorem k_113 : z_kd 113 = 12 := by decide +kernel
theorem p_113_0 : z_isP 113 0 = true ∧ z_P 113 0 = 114 := by decide +kernel
theorem p_113_1 : z_isP 113 1 = true ∧ z_P 113 1 = 115 := by decide +kernel
theorem p_113_2 : z_isP 113 2 = true ∧ z_P 113 2 = 116 := by decide +kernel
theorem p_113_3 : z_isP 113 3 = true ∧ z_P 113 3 = 117 := by decide +kernel
theorem p_113_4 : z_isP 113 4 = true ∧ z_P 113 4 = 118 := by decide +kernel
theorem p_113_5 : z_isP 113 5 = true ∧ z_P 113 5 = 119 := by decide +kernel
theorem p_113_7 : z_isP 113 7 = true ∧ z_P 113 7 = 120 := by decide +kernel
theorem p_113_12 : z_isP 113 12 = true ∧ z_P 113 12 = 121 := by decide +kernel
theorem p_113_13 : z_isP 113 13 = true ∧ z_P 113 13 = 122 := by decide +kernel
theorem p_113_14 : z_isP 113 14 = true ∧ z_P 113 14 = 123 := by decide +kernel
theorem p_113_15 : z_isP 113 15 = true ∧ z_P 113 15 = 124 := by decide +kernel
theorem p_113_16 : z_isP 113 16 = true ∧ z_P 113 16 = 125 := by decide +kernel
theorem p_113_17 : z_isP 113 17 = true ∧ z_P 113 17 = 126 := by decide +kernel
theorem p_113_18 : z_isP 113 18 = true ∧ z_P 113 18 = 127 := by decide +kernel
theorem p_113_19 : z_isP 113 19 = true ∧ z_P 113 19 = 128 := by decide +kernel
theorem p_113_20 : z_isP 113 20 = true ∧ z_P 113 20 = 129 := by decide +kernel
theorem p_113_24 : z_isP 113 24 = true ∧ z_P 113 24 = 130 := by decide +kernel
theorem p_113_25 : z_isP 113 25 = true ∧ z_P 113 25 = 131 := by decide +kernel
theorem p_113_26 : z_isP 113 26 = true ∧ z_P 113 26 = 132 := by decide +kernel
theorem p_113_27 : z_isP 113 27 = true ∧ z_P 113 27 = 133 := by decide +kernel
theorem p_113_28 : z_isP 113 28 = true ∧ z_P 113 28 = 134 := by decide +kernel
theorem p_113_29 : z_isP 113 29 = true ∧ z_P 113 29 = 135 := by decide +kernel
theorem p_113_30 : z_isP 113 30 = true ∧ z_P 113 30 = 136 := by decide +kernel
theorem p_113_31 : z_isP 113 31 = true ∧ z_P 113 31 = 137 := by decide +kernel
theorem p_113_35 : z_isP 113 35 = true ∧ z_P 113 35 = 138 := by decide +kernel
theorem p_113_36 : z_isP 113 36 = true ∧ z_P 113 36 = 139 := by decide +kernel
theorem p_113_39 : z_isP 113 39 = true ∧ z_P 113 39 = 140 := by decide +kernel
theorem p_113_40 : z_isP 113 40 = true ∧ z_P 113 40 = 141 := by decide +kernel
theorem p_113_42 : z_isP 113 42 = true ∧ z_P 113 42 = 142 := by decide +kernel
theorem p_113_43 : z_isP 113 43 = true ∧ z_P 113 43 = 143 := by decide +kernel
theorem p_113_44 : z_isP 113 44 = true ∧ z_P 113 44 = 144 := by decide +kernel
theorem p_113_47 : z_isP 113 47 = true ∧ z_P 113 47 = 145 := by decide +kernel
theorem p_113_48 : z_isP 113 48 = true ∧ z_P 113 48 = 146 := by decide +kernel
theorem p_113_49 : z_isP 113 49 = true ∧ z_P 113 49 = 147 := by decide +kernel
theorem k_114 : z_kd 114 = 14 ∧ z_ln 114 = 143 := by decide +kernel
theorem k_115 : z_kd 115 = 14 ∧ z_ln 115 = 143 := by decide +kernel
theorem k_116 : z_kd 116 = 14 ∧ z_ln 116 = 143 := by decide +kernel
theorem k_117 : z_kd 117 = 14 ∧ z_ln 117 = 1430 := by decide +kernel
theorem k_118 : z_kd 118 = 14 ∧ z_ln 118 = 286 := by decide +kernel
theorem k_119 : z_kd 119 = 16 ∧ z_ln 119 = 2 := by decide +kernel
theorem k_120 : z_kd 120 = 13 ∧ z_ln 120 = 200 := by decide +kernel
theorem k_121 : z_kd 121 = 14 ∧ z_ln 121 = 30 := by decide +kernel
theorem k_122 : z_kd 122 = 14 ∧ z_ln 122 = 30 := by decide +kernel
theorem k_123 : z_kd 123 = 14 ∧ z_ln 123 = 120 := by decide +kernel
theorem k_124 : z_kd 124 = 14 ∧ z_ln 124 = 120 := by decide +kernel
theorem k_125 : z_kd 125 = 14 ∧ z_ln 125 = 120 := by decide +kernel
theorem k_126 : z_kd 126 = 14 ∧ z_ln 126 = 120 := by decide +kernel
theorem k_127 : z_kd 127 = 14 ∧ z_ln 127 = 60 := by decide +kernel
theorem k_128 : z_kd 128 = 14 ∧ z_ln 128 = 120 := by decide +kernel
theorem k_129 : z_kd 129 = 14 ∧ z_ln 129 = 120 := by decide +kernel
theorem k_130 : z_kd 130 = 16 ∧ z_ln 130 = 30 := by decide +kernel
theorem k_131 : z_kd 131 = 14 ∧ z_ln 131 = 30 := by decide +kernel
theorem k_132 : z_kd 132 = 14 ∧ z_ln 132 = 30 := by decide +kernel
theorem k_133 : z_kd 133 = 14 ∧ z_ln 133 = 30 := by decide +kernel
theorem k_134 : z_kd 134 = 16 ∧ z_ln 134 = 30 := by decide +kernel
theorem k_135 : z_kd 135 = 14 ∧ z_ln 135 = 30 := by decide +kernel
theorem k_136 : z_kd 136 = 14 ∧ z_ln 136 = 30 := by decide +kernel
theorem k_137 : z_kd 137 = 14 ∧ z_ln 137 = 30 := by decide +kernel
theorem k_138 : z_kd 138 = 14 ∧ z_ln 138 = 60 := by decide +kernel
theorem k_139 : z_kd 139 = 16 ∧ z_ln 139 = 30 := by decide +kernel
theorem k_140 : z_kd 140 = 14 ∧ z_ln 140 = 120 := by decide +kernel
theorem k_141 : z_kd 141 = 14 ∧ z_ln 141 = 120 := by decide +kernel
theorem k_142 : z_kd 142 = 14 ∧ z_ln 142 = 22 := by decide +kernel
theorem k_143 : z_kd 143 = 14 ∧ z_ln 143 = 22 := by decide +kernel
theorem k_144 : z_kd 144 = 14 ∧ z_ln 144 = 22 := by decide +kernel
theorem k_145 : z_kd 145 = 14 ∧ z_ln 145 = 30 := by decide +kernel
theorem k_146 : z_kd 146 = 14 ∧ z_ln 146 = 30 := by decide +kernel
theorem k_147 : z_kd 147 = 14 ∧ z_ln 147 = 30 := by decide +kernel
theorem z_kd_all (f : Int → Bool) (h : (List.range 147).all (fun i => f ((i : Int) + 1)) = true) {o : Int} {k : Nat} (ho : z_kd o = k) (hk : k < 99) : f o = true := by
  have h1 := z_isn ho hk
  have h2 := List.all_eq_true.mp h (o.toNat - 1) (List.mem_range.mpr (by have := h1.1; have := h1.2.1; simp only at this; omega))
  rwa [show ((o.toNat - 1 : Nat) : Int) + 1 = o by have := h1.1; omega] at h2
theorem s_3_2_p {o : Int} (ho : z_kd o = 3) : z_isP o 2 = true ∧ z_P o 2 = o + 1 := by
  have h := z_kd_all (fun o => !(decide (z_kd o = 3)) || (decide (z_isP o 2 = true) && decide (z_P o 2 = o + 1))) (by decide +kernel) ho (by decide)
  simpa [ho] using h
theorem s_3_2_k {o : Int} (ho : z_kd o = 3) : z_kd (o + 1) = 14 ∧ z_ln (o + 1) = 60 := by
  have h := z_kd_all (fun o => !(decide (z_kd o = 3)) || (decide (z_kd (o + 1) = 14) && decide (z_ln (o + 1) = 60))) (by decide +kernel) ho (by decide)
  simpa [ho] using h
theorem s_6_0_p {o : Int} (ho : z_kd o = 6) : z_isP o 0 = true ∧ z_P o 0 = o + 1 := by
  have h := z_kd_all (fun o => !(decide (z_kd o = 6)) || (decide (z_isP o 0 = true) && decide (z_P o 0 = o + 1))) (by decide +kernel) ho (by decide)
  simpa [ho] using h
theorem s_6_0_k {o : Int} (ho : z_kd o = 6) : z_kd (o + 1) = 14 ∧ z_ln (o + 1) = 30 := by
  have h := z_kd_all (fun o => !(decide (z_kd o = 6)) || (decide (z_kd (o + 1) = 14) && decide (z_ln (o + 1) = 30))) (by decide +kernel) ho (by decide)
  simpa [ho] using h
theorem s_6_1_p {o : Int} (ho : z_kd o = 6) : z_isP o 1 = true ∧ z_P o 1 = o + 2 := by
  have h := z_kd_all (fun o => !(decide (z_kd o = 6)) || (decide (z_isP o 1 = true) && decide (z_P o 1 = o + 2))) (by decide +kernel) ho (by decide)
  simpa [ho] using h
theorem s_6_1_k {o : Int} (ho : z_kd o = 6) : z_kd (o + 2) = 14 ∧ z_ln (o + 2) = 30 := by
  have h := z_kd_all (fun o => !(decide (z_kd o = 6)) || (decide (z_kd (o + 2) = 14) && decide (z_ln (o + 2) = 30))) (by decide +kernel) ho (by decide)
  simpa [ho] using h
theorem s_6_2_p {o : Int} (ho : z_kd o = 6) : z_isP o 2 = true ∧ z_P o 2 = o + 3 := by
  have h := z_kd_all (fun o => !(decide (z_kd o = 6)) || (decide (z_isP o 2 = true) && decide (z_P o 2 = o + 3))) (by decide +kernel) ho (by decide)
  simpa [ho] using h
theorem s_6_2_k {o : Int} (ho : z_kd o = 6) : z_kd (o + 3) = 14 ∧ z_ln (o + 3) = 30 := by
  have h := z_kd_all (fun o => !(decide (z_kd o = 6)) || (decide (z_kd (o + 3) = 14) && decide (z_ln (o + 3) = 30))) (by decide +kernel) ho (by decide)
  simpa [ho] using h
theorem s_6_3_p {o : Int} (ho : z_kd o = 6) : z_isP o 3 = true ∧ z_P o 3 = o + 4 := by
  have h := z_kd_all (fun o => !(decide (z_kd o = 6)) || (decide (z_isP o 3 = true) && decide (z_P o 3 = o + 4))) (by decide +kernel) ho (by decide)
  simpa [ho] using h
theorem s_6_3_k {o : Int} (ho : z_kd o = 6) : z_kd (o + 4) = 14 ∧ z_ln (o + 4) = 30 := by
  have h := z_kd_all (fun o => !(decide (z_kd o = 6)) || (decide (z_kd (o + 4) = 14) && decide (z_ln (o + 4) = 30))) (by decide +kernel) ho (by decide)
  simpa [ho] using h
theorem s_6_4_p {o : Int} (ho : z_kd o = 6) : z_isP o 4 = true ∧ z_P o 4 = o + 5 := by
  have h := z_kd_all (fun o => !(decide (z_kd o = 6)) || (decide (z_isP o 4 = true) && decide (z_P o 4 = o + 5))) (by decide +kernel) ho (by decide)
  simpa [ho] using h
theorem s_6_4_k {o : Int} (ho : z_kd o = 6) : z_kd (o + 5) = 14 ∧ z_ln (o + 5) = 30 := by
  have h := z_kd_all (fun o => !(decide (z_kd o = 6)) || (decide (z_kd (o + 5) = 14) && decide (z_ln (o + 5) = 30))) (by decide +kernel) ho (by decide)
  simpa [ho] using h
theorem s_7_2_p {o : Int} (ho : z_kd o = 7) : z_isP o 2 = true ∧ z_P o 2 = o + 1 := by
  have h := z_kd_all (fun o => !(decide (z_kd o = 7)) || (decide (z_isP o 2 = true) && decide (z_P o 2 = o + 1))) (by decide +kernel) ho (by decide)
  simpa [ho] using h
theorem s_7_2_k {o : Int} (ho : z_kd o = 7) : z_kd (o + 1) = 14 ∧ z_ln (o + 1) = 21 := by
  have h := z_kd_all (fun o => !(decide (z_kd o = 7)) || (decide (z_kd (o + 1) = 14) && decide (z_ln (o + 1) = 21))) (by decide +kernel) ho (by decide)
  simpa [ho] using h
theorem s_7_3_p {o : Int} (ho : z_kd o = 7) : z_isP o 3 = true ∧ z_P o 3 = o + 2 := by
  have h := z_kd_all (fun o => !(decide (z_kd o = 7)) || (decide (z_isP o 3 = true) && decide (z_P o 3 = o + 2))) (by decide +kernel) ho (by decide)
  simpa [ho] using h
theorem s_7_3_k {o : Int} (ho : z_kd o = 7) : z_kd (o + 2) = 3 := by
  have h := z_kd_all (fun o => !(decide (z_kd o = 7)) || decide (z_kd (o + 2) = 3)) (by decide +kernel) ho (by decide)
  simpa [ho] using h
theorem s_7_5_p {o : Int} (ho : z_kd o = 7) : z_isP o 5 = true ∧ z_P o 5 = o + 4 := by
  have h := z_kd_all (fun o => !(decide (z_kd o = 7)) || (decide (z_isP o 5 = true) && decide (z_P o 5 = o + 4))) (by decide +kernel) ho (by decide)
  simpa [ho] using h
theorem s_7_5_k {o : Int} (ho : z_kd o = 7) : z_kd (o + 4) = 14 ∧ z_ln (o + 4) = 30 := by
  have h := z_kd_all (fun o => !(decide (z_kd o = 7)) || (decide (z_kd (o + 4) = 14) && decide (z_ln (o + 4) = 30))) (by decide +kernel) ho (by decide)
  simpa [ho] using h
theorem r_81_p {i : Int} (h : 0 ≤ i ∧ i < 10) : z_isP 81 i = true ∧ z_P 81 i = 82 + 2 * i := by
  have key : ∀ k : Nat, k < 10 → z_isP 81 k = true ∧ z_P 81 k = 82 + 2 * (k : Int) := by decide +kernel
  have := key i.toNat (by omega)
  rwa [Int.toNat_of_nonneg h.1] at this
theorem r_81_k {i : Int} (h : 0 ≤ i ∧ i < 10) : z_kd (82 + 2 * i) = 3 := by
  have key : ∀ k : Nat, k < 10 → z_kd (82 + 2 * (k : Int)) = 3 := by decide +kernel
  have := key i.toNat (by omega)
  rwa [Int.toNat_of_nonneg h.1] at this
theorem r_102_p {i : Int} (h : 0 ≤ i ∧ i < 2) : z_isP 102 i = true ∧ z_P 102 i = 103 + 5 * i := by
  have key : ∀ k : Nat, k < 2 → z_isP 102 k = true ∧ z_P 102 k = 103 + 5 * (k : Int) := by decide +kernel
  have := key i.toNat (by omega)
  rwa [Int.toNat_of_nonneg h.1] at this
theorem r_102_k {i : Int} (h : 0 ≤ i ∧ i < 2) : z_kd (103 + 5 * i) = 7 := by
  have key : ∀ k : Nat, k < 2 → z_kd (103 + 5 * (k : Int)) = 7 := by decide +kernel
  have := key i.toNat (by omega)
  rwa [Int.toNat_of_nonneg h.1] at this
theorem r_49_p {i : Int} (h : 0 ≤ i ∧ i < 12) : z_isP 49 i = true ∧ z_P 49 i = 50 + i := by
  have key : ∀ k : Nat, k < 12 → z_isP 49 k = true ∧ z_P 49 k = 50 + (k : Int) := by decide +kernel
  have := key i.toNat (by omega)
  rwa [Int.toNat_of_nonneg h.1] at this
theorem r_49_k {i : Int} (h : 0 ≤ i ∧ i < 12) : z_kd (50 + i) = 14 ∧ z_ln (50 + i) = 22 := by
  have key : ∀ k : Nat, k < 12 → z_kd (50 + (k : Int)) = 14 ∧ z_ln (50 + (k : Int)) = 22 := by decide +kernel
  have := key i.toNat (by omega)
  rwa [Int.toNat_of_nonneg h.1] at this
theorem r_62_p {i : Int} (h : 0 ≤ i ∧ i < 12) : z_isP 62 i = true ∧ z_P 62 i = 63 + i := by
  have key : ∀ k : Nat, k < 12 → z_isP 62 k = true ∧ z_P 62 k = 63 + (k : Int) := by decide +kernel
  have := key i.toNat (by omega)
  rwa [Int.toNat_of_nonneg h.1] at this
theorem r_62_k {i : Int} (h : 0 ≤ i ∧ i < 12) : z_kd (63 + i) = 14 ∧ z_ln (63 + i) = 22 := by
  have key : ∀ k : Nat, k < 12 → z_kd (63 + (k : Int)) = 14 ∧ z_ln (63 + (k : Int)) = 22 := by decide +kernel
  have := key i.toNat (by omega)
  rwa [Int.toNat_of_nonneg h.1] at this
theorem zm_X0_init : z_MF m_X0_init 0 := ⟨by decide +kernel, zq_384, zq_127, ⟨by decide +kernel, by decide +kernel, by decide +kernel⟩, by decide⟩
theorem zm_X0_trace : z_MF m_X0_trace 2 := ⟨by decide +kernel, zq_1084, zq_127, ⟨by decide +kernel, by decide +kernel, by decide +kernel⟩, by decide⟩
theorem zm_X1_init : z_MF m_X1_init 0 := ⟨by decide +kernel, zq_417, zq_128, ⟨by decide +kernel, by decide +kernel, by decide +kernel⟩, by decide⟩
theorem zm_X1_findAll : z_MF m_X1_findAll 1 := ⟨by decide +kernel, zq_1095, zq_128, ⟨by decide +kernel, by decide +kernel, by decide +kernel⟩, by decide⟩
theorem zm_X1_begin : z_MF m_X1_begin 1 := ⟨by decide +kernel, zq_1099, zq_128, ⟨by decide +kernel, by decide +kernel, by decide +kernel⟩, by decide⟩
theorem zm_X1_open : z_MF m_X1_open 1 := ⟨by decide +kernel, zq_1104, zq_128, ⟨by decide +kernel, by decide +kernel, by decide +kernel⟩, by decide⟩
theorem zm_X1_takeUp : z_MF m_X1_takeUp 1 := ⟨by decide +kernel, zq_1130, zq_128, ⟨by decide +kernel, by decide +kernel, by decide +kernel⟩, by decide⟩
theorem zm_X1_glueNext : z_MF m_X1_glueNext 1 := ⟨by decide +kernel, zq_1109, zq_128, ⟨by decide +kernel, by decide +kernel, by decide +kernel⟩, by decide⟩
theorem zm_X1_store : z_MF m_X1_store 0 := ⟨by decide +kernel, zq_1122, zq_128, ⟨by decide +kernel, by decide +kernel, by decide +kernel⟩, by decide⟩
theorem zm_X1_wordOf : z_MF m_X1_wordOf 1 := ⟨by decide +kernel, zq_1126, zq_128, ⟨by decide +kernel, by decide +kernel, by decide +kernel⟩, by decide⟩
theorem zm_X1_glueTwo : z_MF m_X1_glueTwo 3 := ⟨by decide +kernel, zq_1114, zq_128, ⟨by decide +kernel, by decide +kernel, by decide +kernel⟩, by decide⟩
theorem zm_X1_makeOne : z_MF m_X1_makeOne 3 := ⟨by decide +kernel, zq_1118, zq_128, ⟨by decide +kernel, by decide +kernel, by decide +kernel⟩, by decide⟩
theorem zm_X1_unpack : z_MF m_X1_unpack 1 := ⟨by decide +kernel, zq_1139, zq_128, ⟨by decide +kernel, by decide +kernel, by decide +kernel⟩, by decide⟩
theorem zm_X1_glueWithLastOpen : z_MF m_X1_glueWithLastOpen 2 := ⟨by decide +kernel, zq_1143, zq_128, ⟨by decide +kernel, by decide +kernel, by decide +kernel⟩, by decide⟩
theorem zm_X1_measure : z_MF m_X1_measure 2 := ⟨by decide +kernel, zq_1151, zq_128, ⟨by decide +kernel, by decide +kernel, by decide +kernel⟩, by decide⟩
theorem zm_X1_numberOf : z_MF m_X1_numberOf 1 := ⟨by decide +kernel, zq_1159, zq_128, ⟨by decide +kernel, by decide +kernel, by decide +kernel⟩, by decide⟩
theorem zm_X1_isGluedLike : z_MF m_X1_isGluedLike 1 := ⟨by decide +kernel, zq_1164, zq_128, ⟨by decide +kernel, by decide +kernel, by decide +kernel⟩, by decide⟩
theorem zm_X2_init : z_MF m_X2_init 0 := ⟨by decide +kernel, zq_481, zq_130, ⟨by decide +kernel, by decide +kernel, by decide +kernel⟩, by decide⟩
theorem zm_X2_forget : z_MF m_X2_forget 0 := ⟨by decide +kernel, zq_695, zq_130, ⟨by decide +kernel, by decide +kernel, by decide +kernel⟩, by decide⟩
theorem zm_X2_remember : z_MF m_X2_remember 1 := ⟨by decide +kernel, zq_768, zq_130, ⟨by decide +kernel, by decide +kernel, by decide +kernel⟩, by decide⟩
theorem zm_X2_bringBack : z_MF m_X2_bringBack 1 := ⟨by decide +kernel, zq_943, zq_130, ⟨by decide +kernel, by decide +kernel, by decide +kernel⟩, by decide⟩
theorem zm_X3_init : z_MF m_X3_init 0 := ⟨by decide +kernel, zq_261, zq_123, ⟨by decide +kernel, by decide +kernel, by decide +kernel⟩, by decide⟩
theorem zm_X3_begin : z_MF m_X3_begin 0 := ⟨by decide +kernel, zq_691, zq_123, ⟨by decide +kernel, by decide +kernel, by decide +kernel⟩, by decide⟩
theorem zm_X3_copy : z_MF m_X3_copy 1 := ⟨by decide +kernel, zq_772, zq_123, ⟨by decide +kernel, by decide +kernel, by decide +kernel⟩, by decide⟩
theorem zm_X3_isHinge : z_MF m_X3_isHinge 1 := ⟨by decide +kernel, zq_715, zq_123, ⟨by decide +kernel, by decide +kernel, by decide +kernel⟩, by decide⟩
theorem zm_X3_setHinge : z_MF m_X3_setHinge 1 := ⟨by decide +kernel, zq_778, zq_123, ⟨by decide +kernel, by decide +kernel, by decide +kernel⟩, by decide⟩
theorem zm_X3_setCut : z_MF m_X3_setCut 1 := ⟨by decide +kernel, zq_796, zq_123, ⟨by decide +kernel, by decide +kernel, by decide +kernel⟩, by decide⟩
theorem zm_X3_swap : z_MF m_X3_swap 2 := ⟨by decide +kernel, zq_855, zq_123, ⟨by decide +kernel, by decide +kernel, by decide +kernel⟩, by decide⟩
theorem zm_X3_howMany : z_MF m_X3_howMany 0 := ⟨by decide +kernel, zq_782, zq_123, ⟨by decide +kernel, by decide +kernel, by decide +kernel⟩, by decide⟩
theorem zm_X4_init : z_MF m_X4_init 0 := ⟨by decide +kernel, zq_148, zq_121, ⟨by decide +kernel, by decide +kernel, by decide +kernel⟩, by decide⟩
theorem zm_X4_read : z_MF m_X4_read 2 := ⟨by decide +kernel, zq_590, zq_121, ⟨by decide +kernel, by decide +kernel, by decide +kernel⟩, by decide⟩
theorem zm_X4_readCube : z_MF m_X4_readCube 0 := ⟨by decide +kernel, zq_597, zq_121, ⟨by decide +kernel, by decide +kernel, by decide +kernel⟩, by decide⟩
theorem zm_X4_toNext : z_MF m_X4_toNext 0 := ⟨by decide +kernel, zq_601, zq_121, ⟨by decide +kernel, by decide +kernel, by decide +kernel⟩, by decide⟩
theorem zm_X4_passWord : z_MF m_X4_passWord 0 := ⟨by decide +kernel, zq_605, zq_121, ⟨by decide +kernel, by decide +kernel, by decide +kernel⟩, by decide⟩
theorem zm_X4_passNumber : z_MF m_X4_passNumber 0 := ⟨by decide +kernel, zq_609, zq_121, ⟨by decide +kernel, by decide +kernel, by decide +kernel⟩, by decide⟩
theorem zm_X4_canStand : z_MF m_X4_canStand 1 := ⟨by decide +kernel, zq_613, zq_121, ⟨by decide +kernel, by decide +kernel, by decide +kernel⟩, by decide⟩
theorem zm_X4_apart : z_MF m_X4_apart 3 := ⟨by decide +kernel, zq_621, zq_121, ⟨by decide +kernel, by decide +kernel, by decide +kernel⟩, by decide⟩
theorem zm_X4_distance : z_MF m_X4_distance 2 := ⟨by decide +kernel, zq_617, zq_121, ⟨by decide +kernel, by decide +kernel, by decide +kernel⟩, by decide⟩
theorem zm_X4_isSolid : z_MF m_X4_isSolid 0 := ⟨by decide +kernel, zq_628, zq_121, ⟨by decide +kernel, by decide +kernel, by decide +kernel⟩, by decide⟩
theorem zm_X4_shareEdge : z_MF m_X4_shareEdge 2 := ⟨by decide +kernel, zq_632, zq_121, ⟨by decide +kernel, by decide +kernel, by decide +kernel⟩, by decide⟩
theorem zm_X4_haveThird : z_MF m_X4_haveThird 2 := ⟨by decide +kernel, zq_636, zq_121, ⟨by decide +kernel, by decide +kernel, by decide +kernel⟩, by decide⟩
theorem zm_X5_init : z_MF m_X5_init 0 := ⟨by decide +kernel, zq_359, zq_126, ⟨by decide +kernel, by decide +kernel, by decide +kernel⟩, by decide⟩
theorem zm_X5_find : z_MF m_X5_find 2 := ⟨by decide +kernel, zq_908, zq_126, ⟨by decide +kernel, by decide +kernel, by decide +kernel⟩, by decide⟩
theorem zm_X5_leastEdge : z_MF m_X5_leastEdge 1 := ⟨by decide +kernel, zq_913, zq_126, ⟨by decide +kernel, by decide +kernel, by decide +kernel⟩, by decide⟩
theorem zm_X5_tell : z_MF m_X5_tell 2 := ⟨by decide +kernel, zq_919, zq_126, ⟨by decide +kernel, by decide +kernel, by decide +kernel⟩, by decide⟩
theorem zm_X5_turnBack : z_MF m_X5_turnBack 0 := ⟨by decide +kernel, zq_930, zq_126, ⟨by decide +kernel, by decide +kernel, by decide +kernel⟩, by decide⟩
theorem zm_X6_init : z_MF m_X6_init 0 := ⟨by decide +kernel, zq_283, zq_124, ⟨by decide +kernel, by decide +kernel, by decide +kernel⟩, by decide⟩
theorem zm_X6_lay : z_MF m_X6_lay 2 := ⟨by decide +kernel, zq_703, zq_124, ⟨by decide +kernel, by decide +kernel, by decide +kernel⟩, by decide⟩
theorem zm_X6_putRoot : z_MF m_X6_putRoot 2 := ⟨by decide +kernel, zq_707, zq_124, ⟨by decide +kernel, by decide +kernel, by decide +kernel⟩, by decide⟩
theorem zm_X6_putBehind : z_MF m_X6_putBehind 2 := ⟨by decide +kernel, zq_723, zq_124, ⟨by decide +kernel, by decide +kernel, by decide +kernel⟩, by decide⟩
theorem zm_X6_add : z_MF m_X6_add 2 := ⟨by decide +kernel, zq_711, zq_124, ⟨by decide +kernel, by decide +kernel, by decide +kernel⟩, by decide⟩
theorem zm_X6_takeLast : z_MF m_X6_takeLast 0 := ⟨by decide +kernel, zq_935, zq_124, ⟨by decide +kernel, by decide +kernel, by decide +kernel⟩, by decide⟩
theorem zm_X6_look : z_MF m_X6_look 1 := ⟨by decide +kernel, zq_733, zq_124, ⟨by decide +kernel, by decide +kernel, by decide +kernel⟩, by decide⟩
theorem zm_X6_xBehind : z_MF m_X6_xBehind 1 := ⟨by decide +kernel, zq_727, zq_124, ⟨by decide +kernel, by decide +kernel, by decide +kernel⟩, by decide⟩
theorem zm_X6_yBehind : z_MF m_X6_yBehind 1 := ⟨by decide +kernel, zq_737, zq_124, ⟨by decide +kernel, by decide +kernel, by decide +kernel⟩, by decide⟩
theorem zm_X6_turnBehind : z_MF m_X6_turnBehind 2 := ⟨by decide +kernel, zq_743, zq_124, ⟨by decide +kernel, by decide +kernel, by decide +kernel⟩, by decide⟩
theorem zm_X6_holds : z_MF m_X6_holds 1 := ⟨by decide +kernel, zq_719, zq_124, ⟨by decide +kernel, by decide +kernel, by decide +kernel⟩, by decide⟩
theorem zm_X6_isTaken : z_MF m_X6_isTaken 2 := ⟨by decide +kernel, zq_925, zq_124, ⟨by decide +kernel, by decide +kernel, by decide +kernel⟩, by decide⟩
theorem zm_X6_meet : z_MF m_X6_meet 2 := ⟨by decide +kernel, zq_1011, zq_124, ⟨by decide +kernel, by decide +kernel, by decide +kernel⟩, by decide⟩
theorem zm_X6_overlap : z_MF m_X6_overlap 1 := ⟨by decide +kernel, zq_861, zq_124, ⟨by decide +kernel, by decide +kernel, by decide +kernel⟩, by decide⟩
theorem zm_X6_least : z_MF m_X6_least 1 := ⟨by decide +kernel, zq_1044, zq_124, ⟨by decide +kernel, by decide +kernel, by decide +kernel⟩, by decide⟩
theorem zm_X6_greatest : z_MF m_X6_greatest 1 := ⟨by decide +kernel, zq_1049, zq_124, ⟨by decide +kernel, by decide +kernel, by decide +kernel⟩, by decide⟩
theorem zm_X7_init : z_MF m_X7_init 0 := ⟨by decide +kernel, zq_502, zq_131, ⟨by decide +kernel, by decide +kernel, by decide +kernel⟩, by decide⟩
theorem zm_X7_store : z_MF m_X7_store 3 := ⟨by decide +kernel, zq_979, zq_131, ⟨by decide +kernel, by decide +kernel, by decide +kernel⟩, by decide⟩
theorem zm_X8_init : z_MF m_X8_init 0 := ⟨by decide +kernel, zq_456, zq_129, ⟨by decide +kernel, by decide +kernel, by decide +kernel⟩, by decide⟩
theorem zm_X8_draw : z_MF m_X8_draw 2 := ⟨by decide +kernel, zq_959, zq_129, ⟨by decide +kernel, by decide +kernel, by decide +kernel⟩, by decide⟩
theorem zm_X8_turn : z_MF m_X8_turn 2 := ⟨by decide +kernel, zq_964, zq_129, ⟨by decide +kernel, by decide +kernel, by decide +kernel⟩, by decide⟩
theorem zm_X8_sort : z_MF m_X8_sort 0 := ⟨by decide +kernel, zq_970, zq_129, ⟨by decide +kernel, by decide +kernel, by decide +kernel⟩, by decide⟩
theorem zm_X8_isTrialFirst : z_MF m_X8_isTrialFirst 0 := ⟨by decide +kernel, zq_974, zq_129, ⟨by decide +kernel, by decide +kernel, by decide +kernel⟩, by decide⟩
theorem zm_X8_number : z_MF m_X8_number 0 := ⟨by decide +kernel, zq_1172, zq_129, ⟨by decide +kernel, by decide +kernel, by decide +kernel⟩, by decide⟩
theorem zm_X8_isSame : z_MF m_X8_isSame 2 := ⟨by decide +kernel, zq_1182, zq_129, ⟨by decide +kernel, by decide +kernel, by decide +kernel⟩, by decide⟩
theorem zm_X9_init : z_MF m_X9_init 0 := ⟨by decide +kernel, zq_173, zq_122, ⟨by decide +kernel, by decide +kernel, by decide +kernel⟩, by decide⟩
theorem zm_X9_make : z_MF m_X9_make 2 := ⟨by decide +kernel, zq_640, zq_122, ⟨by decide +kernel, by decide +kernel, by decide +kernel⟩, by decide⟩
theorem zm_X9_findFaces : z_MF m_X9_findFaces 0 := ⟨by decide +kernel, zq_648, zq_122, ⟨by decide +kernel, by decide +kernel, by decide +kernel⟩, by decide⟩
theorem zm_X9_cubeBeside : z_MF m_X9_cubeBeside 3 := ⟨by decide +kernel, zq_652, zq_122, ⟨by decide +kernel, by decide +kernel, by decide +kernel⟩, by decide⟩
theorem zm_X9_isAway : z_MF m_X9_isAway 4 := ⟨by decide +kernel, zq_659, zq_122, ⟨by decide +kernel, by decide +kernel, by decide +kernel⟩, by decide⟩
theorem zm_X9_step : z_MF m_X9_step 2 := ⟨by decide +kernel, zq_655, zq_122, ⟨by decide +kernel, by decide +kernel, by decide +kernel⟩, by decide⟩
theorem zm_X9_findEdges : z_MF m_X9_findEdges 0 := ⟨by decide +kernel, zq_663, zq_122, ⟨by decide +kernel, by decide +kernel, by decide +kernel⟩, by decide⟩
theorem zm_X9_joinSide : z_MF m_X9_joinSide 1 := ⟨by decide +kernel, zq_667, zq_122, ⟨by decide +kernel, by decide +kernel, by decide +kernel⟩, by decide⟩
theorem zm_X9_slotOf : z_MF m_X9_slotOf 3 := ⟨by decide +kernel, zq_673, zq_122, ⟨by decide +kernel, by decide +kernel, by decide +kernel⟩, by decide⟩
theorem zm_X9_findVertices : z_MF m_X9_findVertices 0 := ⟨by decide +kernel, zq_680, zq_122, ⟨by decide +kernel, by decide +kernel, by decide +kernel⟩, by decide⟩
theorem zm_X9_goRound : z_MF m_X9_goRound 1 := ⟨by decide +kernel, zq_684, zq_122, ⟨by decide +kernel, by decide +kernel, by decide +kernel⟩, by decide⟩
theorem zm_X9_faceOf : z_MF m_X9_faceOf 2 := ⟨by decide +kernel, zq_756, zq_122, ⟨by decide +kernel, by decide +kernel, by decide +kernel⟩, by decide⟩
theorem zm_X9_reach : z_MF m_X9_reach 2 := ⟨by decide +kernel, zq_764, zq_122, ⟨by decide +kernel, by decide +kernel, by decide +kernel⟩, by decide⟩
theorem zm_X9_isJoined : z_MF m_X9_isJoined 3 := ⟨by decide +kernel, zq_760, zq_122, ⟨by decide +kernel, by decide +kernel, by decide +kernel⟩, by decide⟩
theorem zm_X9_walkBack : z_MF m_X9_walkBack 3 := ⟨by decide +kernel, zq_1063, zq_122, ⟨by decide +kernel, by decide +kernel, by decide +kernel⟩, by decide⟩
theorem zm_X9_faceOnWay : z_MF m_X9_faceOnWay 2 := ⟨by decide +kernel, zq_1068, zq_122, ⟨by decide +kernel, by decide +kernel, by decide +kernel⟩, by decide⟩
theorem zm_X9_startTree : z_MF m_X9_startTree 1 := ⟨by decide +kernel, zq_829, zq_122, ⟨by decide +kernel, by decide +kernel, by decide +kernel⟩, by decide⟩
theorem zm_X9_growBehind : z_MF m_X9_growBehind 3 := ⟨by decide +kernel, zq_833, zq_122, ⟨by decide +kernel, by decide +kernel, by decide +kernel⟩, by decide⟩
theorem zm_X9_growByBreadth : z_MF m_X9_growByBreadth 1 := ⟨by decide +kernel, zq_825, zq_122, ⟨by decide +kernel, by decide +kernel, by decide +kernel⟩, by decide⟩
theorem zm_X9_growByDepth : z_MF m_X9_growByDepth 1 := ⟨by decide +kernel, zq_842, zq_122, ⟨by decide +kernel, by decide +kernel, by decide +kernel⟩, by decide⟩
theorem zm_X9_greatestDepth : z_MF m_X9_greatestDepth 0 := ⟨by decide +kernel, zq_838, zq_122, ⟨by decide +kernel, by decide +kernel, by decide +kernel⟩, by decide⟩
theorem zm_X10_init : z_MF m_X10_init 2 := ⟨by decide +kernel, zq_326, zq_125, ⟨by decide +kernel, by decide +kernel, by decide +kernel⟩, by decide⟩
theorem zm_X10_look : z_MF m_X10_look 1 := ⟨by decide +kernel, zq_869, zq_125, ⟨by decide +kernel, by decide +kernel, by decide +kernel⟩, by decide⟩
theorem zm_X10_lookAt : z_MF m_X10_lookAt 2 := ⟨by decide +kernel, zq_874, zq_125, ⟨by decide +kernel, by decide +kernel, by decide +kernel⟩, by decide⟩
theorem zm_X10_compare : z_MF m_X10_compare 3 := ⟨by decide +kernel, zq_900, zq_125, ⟨by decide +kernel, by decide +kernel, by decide +kernel⟩, by decide⟩
theorem zm_X10_cutOff : z_MF m_X10_cutOff 1 := ⟨by decide +kernel, zq_878, zq_125, ⟨by decide +kernel, by decide +kernel, by decide +kernel⟩, by decide⟩
theorem zm_X10_layDown : z_MF m_X10_layDown 1 := ⟨by decide +kernel, zq_882, zq_125, ⟨by decide +kernel, by decide +kernel, by decide +kernel⟩, by decide⟩
theorem zm_X10_howManyAt : z_MF m_X10_howManyAt 3 := ⟨by decide +kernel, zq_886, zq_125, ⟨by decide +kernel, by decide +kernel, by decide +kernel⟩, by decide⟩
theorem zm_X10_between : z_MF m_X10_between 3 := ⟨by decide +kernel, zq_891, zq_125, ⟨by decide +kernel, by decide +kernel, by decide +kernel⟩, by decide⟩
theorem zm_X11_init : z_MF m_X11_init 0 := ⟨by decide +kernel, zq_140, zq_120, ⟨by decide +kernel, by decide +kernel, by decide +kernel⟩, by decide⟩
theorem zm_X11_feed : z_MF m_X11_feed 5 := ⟨by decide +kernel, zq_574, zq_120, ⟨by decide +kernel, by decide +kernel, by decide +kernel⟩, by decide⟩
theorem zm_X11_putFour : z_MF m_X11_putFour 1 := ⟨by decide +kernel, zq_578, zq_120, ⟨by decide +kernel, by decide +kernel, by decide +kernel⟩, by decide⟩
theorem zm_X11_end : z_MF m_X11_end 1 := ⟨by decide +kernel, zq_582, zq_120, ⟨by decide +kernel, by decide +kernel, by decide +kernel⟩, by decide⟩
theorem zm_X11_solid : z_MF m_X11_solid 0 := ⟨by decide +kernel, zq_586, zq_120, ⟨by decide +kernel, by decide +kernel, by decide +kernel⟩, by decide⟩
theorem zm_X11_hinge : z_MF m_X11_hinge 1 := ⟨by decide +kernel, zq_747, zq_120, ⟨by decide +kernel, by decide +kernel, by decide +kernel⟩, by decide⟩
theorem zm_X11_cut : z_MF m_X11_cut 1 := ⟨by decide +kernel, zq_792, zq_120, ⟨by decide +kernel, by decide +kernel, by decide +kernel⟩, by decide⟩
theorem zm_X11_root : z_MF m_X11_root 1 := ⟨by decide +kernel, zq_801, zq_120, ⟨by decide +kernel, by decide +kernel, by decide +kernel⟩, by decide⟩
theorem zm_X11_weigh : z_MF m_X11_weigh 2 := ⟨by decide +kernel, zq_809, zq_120, ⟨by decide +kernel, by decide +kernel, by decide +kernel⟩, by decide⟩
theorem zm_X11_span : z_MF m_X11_span 0 := ⟨by decide +kernel, zq_813, zq_120, ⟨by decide +kernel, by decide +kernel, by decide +kernel⟩, by decide⟩
theorem zm_X11_spanBy : z_MF m_X11_spanBy 1 := ⟨by decide +kernel, zq_817, zq_120, ⟨by decide +kernel, by decide +kernel, by decide +kernel⟩, by decide⟩
theorem zm_X11_tree : z_MF m_X11_tree 1 := ⟨by decide +kernel, zq_821, zq_120, ⟨by decide +kernel, by decide +kernel, by decide +kernel⟩, by decide⟩
theorem zm_X11_trade : z_MF m_X11_trade 2 := ⟨by decide +kernel, zq_846, zq_120, ⟨by decide +kernel, by decide +kernel, by decide +kernel⟩, by decide⟩
theorem zm_X11_mend : z_MF m_X11_mend 0 := ⟨by decide +kernel, zq_865, zq_120, ⟨by decide +kernel, by decide +kernel, by decide +kernel⟩, by decide⟩
theorem zm_X11_seek : z_MF m_X11_seek 0 := ⟨by decide +kernel, zq_904, zq_120, ⟨by decide +kernel, by decide +kernel, by decide +kernel⟩, by decide⟩
theorem zm_X11_undo : z_MF m_X11_undo 0 := ⟨by decide +kernel, zq_939, zq_120, ⟨by decide +kernel, by decide +kernel, by decide +kernel⟩, by decide⟩
theorem zm_X11_keep : z_MF m_X11_keep 1 := ⟨by decide +kernel, zq_947, zq_120, ⟨by decide +kernel, by decide +kernel, by decide +kernel⟩, by decide⟩
theorem zm_X11_back : z_MF m_X11_back 1 := ⟨by decide +kernel, zq_985, zq_120, ⟨by decide +kernel, by decide +kernel, by decide +kernel⟩, by decide⟩
theorem zm_X11_face : z_MF m_X11_face 2 := ⟨by decide +kernel, zq_990, zq_120, ⟨by decide +kernel, by decide +kernel, by decide +kernel⟩, by decide⟩
theorem zm_X11_hingesOf : z_MF m_X11_hingesOf 1 := ⟨by decide +kernel, zq_994, zq_120, ⟨by decide +kernel, by decide +kernel, by decide +kernel⟩, by decide⟩
theorem zm_X11_side : z_MF m_X11_side 3 := ⟨by decide +kernel, zq_999, zq_120, ⟨by decide +kernel, by decide +kernel, by decide +kernel⟩, by decide⟩
theorem zm_X11_edge : z_MF m_X11_edge 2 := ⟨by decide +kernel, zq_1003, zq_120, ⟨by decide +kernel, by decide +kernel, by decide +kernel⟩, by decide⟩
theorem zm_X11_corner : z_MF m_X11_corner 3 := ⟨by decide +kernel, zq_1015, zq_120, ⟨by decide +kernel, by decide +kernel, by decide +kernel⟩, by decide⟩
theorem zm_X11_vertex : z_MF m_X11_vertex 2 := ⟨by decide +kernel, zq_1023, zq_120, ⟨by decide +kernel, by decide +kernel, by decide +kernel⟩, by decide⟩
theorem zm_X11_cutsAt : z_MF m_X11_cutsAt 1 := ⟨by decide +kernel, zq_1027, zq_120, ⟨by decide +kernel, by decide +kernel, by decide +kernel⟩, by decide⟩
theorem zm_X11_place : z_MF m_X11_place 2 := ⟨by decide +kernel, zq_1032, zq_120, ⟨by decide +kernel, by decide +kernel, by decide +kernel⟩, by decide⟩
theorem zm_X11_over : z_MF m_X11_over 1 := ⟨by decide +kernel, zq_1036, zq_120, ⟨by decide +kernel, by decide +kernel, by decide +kernel⟩, by decide⟩
theorem zm_X11_box : z_MF m_X11_box 1 := ⟨by decide +kernel, zq_1040, zq_120, ⟨by decide +kernel, by decide +kernel, by decide +kernel⟩, by decide⟩
theorem zm_X11_part : z_MF m_X11_part 1 := ⟨by decide +kernel, zq_1054, zq_120, ⟨by decide +kernel, by decide +kernel, by decide +kernel⟩, by decide⟩
theorem zm_X11_way : z_MF m_X11_way 3 := ⟨by decide +kernel, zq_1059, zq_120, ⟨by decide +kernel, by decide +kernel, by decide +kernel⟩, by decide⟩
theorem zm_X11_free : z_MF m_X11_free 1 := ⟨by decide +kernel, zq_1072, zq_120, ⟨by decide +kernel, by decide +kernel, by decide +kernel⟩, by decide⟩
theorem zm_X11_rim : z_MF m_X11_rim 2 := ⟨by decide +kernel, zq_1076, zq_120, ⟨by decide +kernel, by decide +kernel, by decide +kernel⟩, by decide⟩
theorem zm_X11_gluings : z_MF m_X11_gluings 0 := ⟨by decide +kernel, zq_1091, zq_120, ⟨by decide +kernel, by decide +kernel, by decide +kernel⟩, by decide⟩
theorem zm_X11_glued : z_MF m_X11_glued 2 := ⟨by decide +kernel, zq_1134, zq_120, ⟨by decide +kernel, by decide +kernel, by decide +kernel⟩, by decide⟩
theorem zm_X11_lacks : z_MF m_X11_lacks 2 := ⟨by decide +kernel, zq_1147, zq_120, ⟨by decide +kernel, by decide +kernel, by decide +kernel⟩, by decide⟩
theorem zm_X11_itself : z_MF m_X11_itself 0 := ⟨by decide +kernel, zq_1155, zq_120, ⟨by decide +kernel, by decide +kernel, by decide +kernel⟩, by decide⟩
theorem zm_X11_outline : z_MF m_X11_outline 0 := ⟨by decide +kernel, zq_1168, zq_120, ⟨by decide +kernel, by decide +kernel, by decide +kernel⟩, by decide⟩
theorem zm_X11_alike : z_MF m_X11_alike 1 := ⟨by decide +kernel, zq_1178, zq_120, ⟨by decide +kernel, by decide +kernel, by decide +kernel⟩, by decide⟩
theorem zm_X11_best : z_MF m_X11_best 1 := ⟨by decide +kernel, zq_1186, zq_120, ⟨by decide +kernel, by decide +kernel, by decide +kernel⟩, by decide⟩
theorem zm_X11_count : z_MF m_X11_count 1 := ⟨by decide +kernel, zq_1190, zq_120, ⟨by decide +kernel, by decide +kernel, by decide +kernel⟩, by decide⟩
theorem zm_X11_keptBits : z_MF m_X11_keptBits 0 := ⟨by decide +kernel, zq_1194, zq_120, ⟨by decide +kernel, by decide +kernel, by decide +kernel⟩, by decide⟩
theorem zm_X11_settle : z_MF m_X11_settle 0 := ⟨by decide +kernel, zq_699, zq_120, ⟨by decide +kernel, by decide +kernel, by decide +kernel⟩, by decide⟩
theorem zm_X11_isFace : z_MF m_X11_isFace 1 := ⟨by decide +kernel, zq_805, zq_120, ⟨by decide +kernel, by decide +kernel, by decide +kernel⟩, by decide⟩
theorem zm_X11_isEdge : z_MF m_X11_isEdge 1 := ⟨by decide +kernel, zq_751, zq_120, ⟨by decide +kernel, by decide +kernel, by decide +kernel⟩, by decide⟩
theorem zm_X11_isVertex : z_MF m_X11_isVertex 1 := ⟨by decide +kernel, zq_1019, zq_120, ⟨by decide +kernel, by decide +kernel, by decide +kernel⟩, by decide⟩
theorem zm_X11_isShelf : z_MF m_X11_isShelf 1 := ⟨by decide +kernel, zq_951, zq_120, ⟨by decide +kernel, by decide +kernel, by decide +kernel⟩, by decide⟩
theorem zm_X11_isFree : z_MF m_X11_isFree 1 := ⟨by decide +kernel, zq_1007, zq_120, ⟨by decide +kernel, by decide +kernel, by decide +kernel⟩, by decide⟩
theorem zm_X11_allJoined : z_MF m_X11_allJoined 0 := ⟨by decide +kernel, zq_851, zq_120, ⟨by decide +kernel, by decide +kernel, by decide +kernel⟩, by decide⟩
theorem zm_X11_netFaces : z_MF m_X11_netFaces 0 := ⟨by decide +kernel, zq_955, zq_120, ⟨by decide +kernel, by decide +kernel, by decide +kernel⟩, by decide⟩
theorem zm_X11_traceBorder : z_MF m_X11_traceBorder 0 := ⟨by decide +kernel, zq_1080, zq_120, ⟨by decide +kernel, by decide +kernel, by decide +kernel⟩, by decide⟩
theorem zm_X11_nextSlot : z_MF m_X11_nextSlot 1 := ⟨by decide +kernel, zq_687, zq_120, ⟨by decide +kernel, by decide +kernel, by decide +kernel⟩, by decide⟩
theorem zm_X12_init : z_MF m_X12_init 0 := ⟨by decide +kernel, zq_1200, zq_132, ⟨by decide +kernel, by decide +kernel, by decide +kernel⟩, by decide⟩
theorem zm_X12_in : z_MF m_X12_in 3 := ⟨by decide +kernel, zq_1391, zq_132, ⟨by decide +kernel, by decide +kernel, by decide +kernel⟩, by decide⟩
theorem zm_X12_truth : z_MF m_X12_truth 1 := ⟨by decide +kernel, zq_1422, zq_132, ⟨by decide +kernel, by decide +kernel, by decide +kernel⟩, by decide⟩
theorem zm_X12_moves : z_MF m_X12_moves 4 := ⟨by decide +kernel, zq_1429, zq_132, ⟨by decide +kernel, by decide +kernel, by decide +kernel⟩, by decide⟩
theorem zm_X12_feed : z_MF m_X12_feed 5 := ⟨by decide +kernel, zq_1358, zq_132, ⟨by decide +kernel, by decide +kernel, by decide +kernel⟩, by decide⟩
theorem zm_X12_puts : z_MF m_X12_puts 1 := ⟨by decide +kernel, zq_1362, zq_132, ⟨by decide +kernel, by decide +kernel, by decide +kernel⟩, by decide⟩
theorem zm_X12_end : z_MF m_X12_end 1 := ⟨by decide +kernel, zq_1366, zq_132, ⟨by decide +kernel, by decide +kernel, by decide +kernel⟩, by decide⟩
theorem zm_X12_sign : z_MF m_X12_sign 0 := ⟨by decide +kernel, zq_1382, zq_132, ⟨by decide +kernel, by decide +kernel, by decide +kernel⟩, by decide⟩
theorem zm_X12_next : z_MF m_X12_next 0 := ⟨by decide +kernel, zq_1378, zq_132, ⟨by decide +kernel, by decide +kernel, by decide +kernel⟩, by decide⟩
theorem zm_X12_isRight : z_MF m_X12_isRight 0 := ⟨by decide +kernel, zq_1399, zq_132, ⟨by decide +kernel, by decide +kernel, by decide +kernel⟩, by decide⟩
theorem zm_X12_fails : z_MF m_X12_fails 2 := ⟨by decide +kernel, zq_1395, zq_132, ⟨by decide +kernel, by decide +kernel, by decide +kernel⟩, by decide⟩
theorem zm_X12_takesCube : z_MF m_X12_takesCube 0 := ⟨by decide +kernel, zq_1386, zq_132, ⟨by decide +kernel, by decide +kernel, by decide +kernel⟩, by decide⟩
theorem zm_X12_number : z_MF m_X12_number 0 := ⟨by decide +kernel, zq_1403, zq_132, ⟨by decide +kernel, by decide +kernel, by decide +kernel⟩, by decide⟩
theorem zm_X12_canStand : z_MF m_X12_canStand 1 := ⟨by decide +kernel, zq_1410, zq_132, ⟨by decide +kernel, by decide +kernel, by decide +kernel⟩, by decide⟩
theorem zm_X12_readsPart : z_MF m_X12_readsPart 0 := ⟨by decide +kernel, zq_1374, zq_132, ⟨by decide +kernel, by decide +kernel, by decide +kernel⟩, by decide⟩
theorem zm_X12_isSolid : z_MF m_X12_isSolid 0 := ⟨by decide +kernel, zq_1415, zq_132, ⟨by decide +kernel, by decide +kernel, by decide +kernel⟩, by decide⟩
theorem zm_X12_areAskew : z_MF m_X12_areAskew 2 := ⟨by decide +kernel, zq_1419, zq_132, ⟨by decide +kernel, by decide +kernel, by decide +kernel⟩, by decide⟩
theorem zm_X12_hasBetween : z_MF m_X12_hasBetween 2 := ⟨by decide +kernel, zq_1426, zq_132, ⟨by decide +kernel, by decide +kernel, by decide +kernel⟩, by decide⟩
theorem zm_X12_solid : z_MF m_X12_solid 0 := ⟨by decide +kernel, zq_1370, zq_132, ⟨by decide +kernel, by decide +kernel, by decide +kernel⟩, by decide⟩
theorem zm_X12_wayOf : z_MF m_X12_wayOf 2 := ⟨by decide +kernel, zq_1450, zq_132, ⟨by decide +kernel, by decide +kernel, by decide +kernel⟩, by decide⟩
theorem zm_X12_cubeAt : z_MF m_X12_cubeAt 3 := ⟨by decide +kernel, zq_1437, zq_132, ⟨by decide +kernel, by decide +kernel, by decide +kernel⟩, by decide⟩
theorem zm_X12_faceOf : z_MF m_X12_faceOf 2 := ⟨by decide +kernel, zq_1458, zq_132, ⟨by decide +kernel, by decide +kernel, by decide +kernel⟩, by decide⟩
theorem zm_X12_sideTo : z_MF m_X12_sideTo 2 := ⟨by decide +kernel, zq_1461, zq_132, ⟨by decide +kernel, by decide +kernel, by decide +kernel⟩, by decide⟩
theorem zm_X12_laysBehind : z_MF m_X12_laysBehind 2 := ⟨by decide +kernel, zq_1447, zq_132, ⟨by decide +kernel, by decide +kernel, by decide +kernel⟩, by decide⟩
theorem zm_X12_laysSkin : z_MF m_X12_laysSkin 0 := ⟨by decide +kernel, zq_1433, zq_132, ⟨by decide +kernel, by decide +kernel, by decide +kernel⟩, by decide⟩
theorem zm_X12_mate : z_MF m_X12_mate 1 := ⟨by decide +kernel, zq_1469, zq_132, ⟨by decide +kernel, by decide +kernel, by decide +kernel⟩, by decide⟩
theorem zm_X12_laysEdges : z_MF m_X12_laysEdges 0 := ⟨by decide +kernel, zq_1465, zq_132, ⟨by decide +kernel, by decide +kernel, by decide +kernel⟩, by decide⟩
theorem zm_X12_laysVertices : z_MF m_X12_laysVertices 0 := ⟨by decide +kernel, zq_1473, zq_132, ⟨by decide +kernel, by decide +kernel, by decide +kernel⟩, by decide⟩
theorem zm_X12_keepsPast : z_MF m_X12_keepsPast 0 := ⟨by decide +kernel, zq_1521, zq_132, ⟨by decide +kernel, by decide +kernel, by decide +kernel⟩, by decide⟩
theorem zm_X12_undo : z_MF m_X12_undo 0 := ⟨by decide +kernel, zq_1477, zq_132, ⟨by decide +kernel, by decide +kernel, by decide +kernel⟩, by decide⟩
theorem zm_X12_keep : z_MF m_X12_keep 1 := ⟨by decide +kernel, zq_1481, zq_132, ⟨by decide +kernel, by decide +kernel, by decide +kernel⟩, by decide⟩
theorem zm_X12_back : z_MF m_X12_back 1 := ⟨by decide +kernel, zq_1489, zq_132, ⟨by decide +kernel, by decide +kernel, by decide +kernel⟩, by decide⟩
theorem zm_X12_isEdge : z_MF m_X12_isEdge 1 := ⟨by decide +kernel, zq_1497, zq_132, ⟨by decide +kernel, by decide +kernel, by decide +kernel⟩, by decide⟩
theorem zm_X12_isFace : z_MF m_X12_isFace 1 := ⟨by decide +kernel, zq_1533, zq_132, ⟨by decide +kernel, by decide +kernel, by decide +kernel⟩, by decide⟩
theorem zm_X12_isHinge : z_MF m_X12_isHinge 1 := ⟨by decide +kernel, zq_1501, zq_132, ⟨by decide +kernel, by decide +kernel, by decide +kernel⟩, by decide⟩
theorem zm_X12_hinges : z_MF m_X12_hinges 0 := ⟨by decide +kernel, zq_1485, zq_132, ⟨by decide +kernel, by decide +kernel, by decide +kernel⟩, by decide⟩
theorem zm_X12_firstOf : z_MF m_X12_firstOf 1 := ⟨by decide +kernel, zq_1505, zq_132, ⟨by decide +kernel, by decide +kernel, by decide +kernel⟩, by decide⟩
theorem zm_X12_secondOf : z_MF m_X12_secondOf 1 := ⟨by decide +kernel, zq_1509, zq_132, ⟨by decide +kernel, by decide +kernel, by decide +kernel⟩, by decide⟩
theorem zm_X12_joins : z_MF m_X12_joins 1 := ⟨by decide +kernel, zq_1517, zq_132, ⟨by decide +kernel, by decide +kernel, by decide +kernel⟩, by decide⟩
theorem zm_X12_areJoined : z_MF m_X12_areJoined 2 := ⟨by decide +kernel, zq_1513, zq_132, ⟨by decide +kernel, by decide +kernel, by decide +kernel⟩, by decide⟩
theorem zm_X12_isWhole : z_MF m_X12_isWhole 0 := ⟨by decide +kernel, zq_1567, zq_132, ⟨by decide +kernel, by decide +kernel, by decide +kernel⟩, by decide⟩
theorem zm_X12_hinge : z_MF m_X12_hinge 1 := ⟨by decide +kernel, zq_1493, zq_132, ⟨by decide +kernel, by decide +kernel, by decide +kernel⟩, by decide⟩
theorem zm_X12_cut : z_MF m_X12_cut 1 := ⟨by decide +kernel, zq_1525, zq_132, ⟨by decide +kernel, by decide +kernel, by decide +kernel⟩, by decide⟩
theorem zm_X12_root : z_MF m_X12_root 1 := ⟨by decide +kernel, zq_1529, zq_132, ⟨by decide +kernel, by decide +kernel, by decide +kernel⟩, by decide⟩
theorem zm_X12_weigh : z_MF m_X12_weigh 2 := ⟨by decide +kernel, zq_1537, zq_132, ⟨by decide +kernel, by decide +kernel, by decide +kernel⟩, by decide⟩
theorem zm_X12_cutsAll : z_MF m_X12_cutsAll 0 := ⟨by decide +kernel, zq_1546, zq_132, ⟨by decide +kernel, by decide +kernel, by decide +kernel⟩, by decide⟩
theorem zm_X12_span : z_MF m_X12_span 0 := ⟨by decide +kernel, zq_1542, zq_132, ⟨by decide +kernel, by decide +kernel, by decide +kernel⟩, by decide⟩
theorem zm_X12_goesDeep : z_MF m_X12_goesDeep 1 := ⟨by decide +kernel, zq_1558, zq_132, ⟨by decide +kernel, by decide +kernel, by decide +kernel⟩, by decide⟩
theorem zm_X12_goesWide : z_MF m_X12_goesWide 1 := ⟨by decide +kernel, zq_1554, zq_132, ⟨by decide +kernel, by decide +kernel, by decide +kernel⟩, by decide⟩
theorem zm_X12_tree : z_MF m_X12_tree 1 := ⟨by decide +kernel, zq_1550, zq_132, ⟨by decide +kernel, by decide +kernel, by decide +kernel⟩, by decide⟩
theorem zm_X12_stepX : z_MF m_X12_stepX 1 := ⟨by decide +kernel, zq_1586, zq_132, ⟨by decide +kernel, by decide +kernel, by decide +kernel⟩, by decide⟩
theorem zm_X12_stepY : z_MF m_X12_stepY 1 := ⟨by decide +kernel, zq_1589, zq_132, ⟨by decide +kernel, by decide +kernel, by decide +kernel⟩, by decide⟩
theorem zm_X12_rolls : z_MF m_X12_rolls 1 := ⟨by decide +kernel, zq_1583, zq_132, ⟨by decide +kernel, by decide +kernel, by decide +kernel⟩, by decide⟩
theorem zm_X12_places : z_MF m_X12_places 0 := ⟨by decide +kernel, zq_1579, zq_132, ⟨by decide +kernel, by decide +kernel, by decide +kernel⟩, by decide⟩
theorem zm_X12_areOver : z_MF m_X12_areOver 2 := ⟨by decide +kernel, zq_1593, zq_132, ⟨by decide +kernel, by decide +kernel, by decide +kernel⟩, by decide⟩
theorem zm_X12_overlaps : z_MF m_X12_overlaps 0 := ⟨by decide +kernel, zq_1575, zq_132, ⟨by decide +kernel, by decide +kernel, by decide +kernel⟩, by decide⟩
theorem zm_X12_isFree : z_MF m_X12_isFree 1 := ⟨by decide +kernel, zq_1643, zq_132, ⟨by decide +kernel, by decide +kernel, by decide +kernel⟩, by decide⟩
theorem zm_X12_tradedTo : z_MF m_X12_tradedTo 2 := ⟨by decide +kernel, zq_1571, zq_132, ⟨by decide +kernel, by decide +kernel, by decide +kernel⟩, by decide⟩
theorem zm_X12_laysBest : z_MF m_X12_laysBest 0 := ⟨by decide +kernel, zq_1605, zq_132, ⟨by decide +kernel, by decide +kernel, by decide +kernel⟩, by decide⟩
theorem zm_X12_trades : z_MF m_X12_trades 2 := ⟨by decide +kernel, zq_1597, zq_132, ⟨by decide +kernel, by decide +kernel, by decide +kernel⟩, by decide⟩
theorem zm_X12_trade : z_MF m_X12_trade 2 := ⟨by decide +kernel, zq_1563, zq_132, ⟨by decide +kernel, by decide +kernel, by decide +kernel⟩, by decide⟩
theorem zm_X12_mend : z_MF m_X12_mend 0 := ⟨by decide +kernel, zq_1601, zq_132, ⟨by decide +kernel, by decide +kernel, by decide +kernel⟩, by decide⟩
theorem zm_X12_best : z_MF m_X12_best 1 := ⟨by decide +kernel, zq_1609, zq_132, ⟨by decide +kernel, by decide +kernel, by decide +kernel⟩, by decide⟩
theorem zm_X12_leastEdge : z_MF m_X12_leastEdge 0 := ⟨by decide +kernel, zq_1622, zq_132, ⟨by decide +kernel, by decide +kernel, by decide +kernel⟩, by decide⟩
theorem zm_X12_isTaken : z_MF m_X12_isTaken 2 := ⟨by decide +kernel, zq_1626, zq_132, ⟨by decide +kernel, by decide +kernel, by decide +kernel⟩, by decide⟩
theorem zm_X12_finds : z_MF m_X12_finds 0 := ⟨by decide +kernel, zq_1618, zq_132, ⟨by decide +kernel, by decide +kernel, by decide +kernel⟩, by decide⟩
theorem zm_X12_seek : z_MF m_X12_seek 0 := ⟨by decide +kernel, zq_1614, zq_132, ⟨by decide +kernel, by decide +kernel, by decide +kernel⟩, by decide⟩
theorem zm_X12_face : z_MF m_X12_face 2 := ⟨by decide +kernel, zq_1630, zq_132, ⟨by decide +kernel, by decide +kernel, by decide +kernel⟩, by decide⟩
theorem zm_X12_side : z_MF m_X12_side 3 := ⟨by decide +kernel, zq_1635, zq_132, ⟨by decide +kernel, by decide +kernel, by decide +kernel⟩, by decide⟩
theorem zm_X12_edge : z_MF m_X12_edge 2 := ⟨by decide +kernel, zq_1639, zq_132, ⟨by decide +kernel, by decide +kernel, by decide +kernel⟩, by decide⟩
theorem zm_X12_corner : z_MF m_X12_corner 3 := ⟨by decide +kernel, zq_1647, zq_132, ⟨by decide +kernel, by decide +kernel, by decide +kernel⟩, by decide⟩
theorem zm_X12_cutsAt : z_MF m_X12_cutsAt 1 := ⟨by decide +kernel, zq_1655, zq_132, ⟨by decide +kernel, by decide +kernel, by decide +kernel⟩, by decide⟩
theorem zm_X12_vertex : z_MF m_X12_vertex 2 := ⟨by decide +kernel, zq_1651, zq_132, ⟨by decide +kernel, by decide +kernel, by decide +kernel⟩, by decide⟩
theorem zm_X12_place : z_MF m_X12_place 2 := ⟨by decide +kernel, zq_1659, zq_132, ⟨by decide +kernel, by decide +kernel, by decide +kernel⟩, by decide⟩
theorem zm_X12_over : z_MF m_X12_over 1 := ⟨by decide +kernel, zq_1663, zq_132, ⟨by decide +kernel, by decide +kernel, by decide +kernel⟩, by decide⟩
theorem zm_X12_box : z_MF m_X12_box 1 := ⟨by decide +kernel, zq_1667, zq_132, ⟨by decide +kernel, by decide +kernel, by decide +kernel⟩, by decide⟩
theorem zm_X12_part : z_MF m_X12_part 1 := ⟨by decide +kernel, zq_1671, zq_132, ⟨by decide +kernel, by decide +kernel, by decide +kernel⟩, by decide⟩
theorem zm_X12_way : z_MF m_X12_way 3 := ⟨by decide +kernel, zq_1675, zq_132, ⟨by decide +kernel, by decide +kernel, by decide +kernel⟩, by decide⟩
theorem zm_X12_free : z_MF m_X12_free 1 := ⟨by decide +kernel, zq_1679, zq_132, ⟨by decide +kernel, by decide +kernel, by decide +kernel⟩, by decide⟩
theorem zm_X12_nextSide : z_MF m_X12_nextSide 1 := ⟨by decide +kernel, zq_1694, zq_132, ⟨by decide +kernel, by decide +kernel, by decide +kernel⟩, by decide⟩
theorem zm_X12_isCutSide : z_MF m_X12_isCutSide 1 := ⟨by decide +kernel, zq_1691, zq_132, ⟨by decide +kernel, by decide +kernel, by decide +kernel⟩, by decide⟩
theorem zm_X12_laysRim : z_MF m_X12_laysRim 0 := ⟨by decide +kernel, zq_1687, zq_132, ⟨by decide +kernel, by decide +kernel, by decide +kernel⟩, by decide⟩
theorem zm_X12_partner : z_MF m_X12_partner 1 := ⟨by decide +kernel, zq_1698, zq_132, ⟨by decide +kernel, by decide +kernel, by decide +kernel⟩, by decide⟩
theorem zm_X12_rim : z_MF m_X12_rim 2 := ⟨by decide +kernel, zq_1683, zq_132, ⟨by decide +kernel, by decide +kernel, by decide +kernel⟩, by decide⟩
theorem zm_X12_pointOf : z_MF m_X12_pointOf 1 := ⟨by decide +kernel, zq_1722, zq_132, ⟨by decide +kernel, by decide +kernel, by decide +kernel⟩, by decide⟩
theorem zm_X12_makesOne : z_MF m_X12_makesOne 2 := ⟨by decide +kernel, zq_1718, zq_132, ⟨by decide +kernel, by decide +kernel, by decide +kernel⟩, by decide⟩
theorem zm_X12_laysPoints : z_MF m_X12_laysPoints 0 := ⟨by decide +kernel, zq_1714, zq_132, ⟨by decide +kernel, by decide +kernel, by decide +kernel⟩, by decide⟩
theorem zm_X12_glues : z_MF m_X12_glues 1 := ⟨by decide +kernel, zq_1710, zq_132, ⟨by decide +kernel, by decide +kernel, by decide +kernel⟩, by decide⟩
theorem zm_X12_areFree : z_MF m_X12_areFree 2 := ⟨by decide +kernel, zq_1726, zq_132, ⟨by decide +kernel, by decide +kernel, by decide +kernel⟩, by decide⟩
theorem zm_X12_laysGluings : z_MF m_X12_laysGluings 1 := ⟨by decide +kernel, zq_1706, zq_132, ⟨by decide +kernel, by decide +kernel, by decide +kernel⟩, by decide⟩
theorem zm_X12_gluings : z_MF m_X12_gluings 0 := ⟨by decide +kernel, zq_1702, zq_132, ⟨by decide +kernel, by decide +kernel, by decide +kernel⟩, by decide⟩
theorem zm_X12_laysOne : z_MF m_X12_laysOne 1 := ⟨by decide +kernel, zq_1734, zq_132, ⟨by decide +kernel, by decide +kernel, by decide +kernel⟩, by decide⟩
theorem zm_X12_glued : z_MF m_X12_glued 2 := ⟨by decide +kernel, zq_1730, zq_132, ⟨by decide +kernel, by decide +kernel, by decide +kernel⟩, by decide⟩
theorem zm_X12_lacks : z_MF m_X12_lacks 2 := ⟨by decide +kernel, zq_1738, zq_132, ⟨by decide +kernel, by decide +kernel, by decide +kernel⟩, by decide⟩
theorem zm_X12_isOwn : z_MF m_X12_isOwn 0 := ⟨by decide +kernel, zq_1746, zq_132, ⟨by decide +kernel, by decide +kernel, by decide +kernel⟩, by decide⟩
theorem zm_X12_itself : z_MF m_X12_itself 0 := ⟨by decide +kernel, zq_1742, zq_132, ⟨by decide +kernel, by decide +kernel, by decide +kernel⟩, by decide⟩
theorem zm_X12_sorts : z_MF m_X12_sorts 1 := ⟨by decide +kernel, zq_1768, zq_132, ⟨by decide +kernel, by decide +kernel, by decide +kernel⟩, by decide⟩
theorem zm_X12_turnedX : z_MF m_X12_turnedX 3 := ⟨by decide +kernel, zq_1761, zq_132, ⟨by decide +kernel, by decide +kernel, by decide +kernel⟩, by decide⟩
theorem zm_X12_turnedY : z_MF m_X12_turnedY 3 := ⟨by decide +kernel, zq_1764, zq_132, ⟨by decide +kernel, by decide +kernel, by decide +kernel⟩, by decide⟩
theorem zm_X12_laysCells : z_MF m_X12_laysCells 1 := ⟨by decide +kernel, zq_1758, zq_132, ⟨by decide +kernel, by decide +kernel, by decide +kernel⟩, by decide⟩
theorem zm_X12_isLess : z_MF m_X12_isLess 0 := ⟨by decide +kernel, zq_1772, zq_132, ⟨by decide +kernel, by decide +kernel, by decide +kernel⟩, by decide⟩
theorem zm_X12_laysOutline : z_MF m_X12_laysOutline 0 := ⟨by decide +kernel, zq_1754, zq_132, ⟨by decide +kernel, by decide +kernel, by decide +kernel⟩, by decide⟩
theorem zm_X12_outline : z_MF m_X12_outline 0 := ⟨by decide +kernel, zq_1750, zq_132, ⟨by decide +kernel, by decide +kernel, by decide +kernel⟩, by decide⟩
theorem zm_X12_alike : z_MF m_X12_alike 1 := ⟨by decide +kernel, zq_1778, zq_132, ⟨by decide +kernel, by decide +kernel, by decide +kernel⟩, by decide⟩
theorem zm_X12_unfree : z_MF m_X12_unfree 0 := ⟨by decide +kernel, zq_1786, zq_132, ⟨by decide +kernel, by decide +kernel, by decide +kernel⟩, by decide⟩
theorem zm_X12_count : z_MF m_X12_count 1 := ⟨by decide +kernel, zq_1782, zq_132, ⟨by decide +kernel, by decide +kernel, by decide +kernel⟩, by decide⟩
theorem zm_J13_bitCount_95d88 : z_MF m_J13_bitCount_95d88 1 := ⟨by decide +kernel, zq_785, zq_135, ⟨by decide +kernel, by decide +kernel, by decide +kernel⟩, by decide⟩
theorem zc_1105 : Cond.constant RX1 51 (Int32.ofInt (1000000)) ∈ z_gw := z_mg 1105 (by decide +kernel) (by decide +kernel)
theorem zc_1173 : Cond.constantLong RX8 65 (Int64.ofInt (17)) ∈ z_gw := z_mg 1173 (by decide +kernel) (by decide +kernel)
theorem zc_1174 : Cond.constantLong RX8 67 (Int64.ofInt (31)) ∈ z_gw := z_mg 1174 (by decide +kernel) (by decide +kernel)
theorem zc_1387 : Cond.constantLong RX12 139 (Int64.ofInt (97)) ∈ z_gw := z_mg 1387 (by decide +kernel) (by decide +kernel)
theorem zc_1388 : Cond.constantLong RX12 141 (Int64.ofInt (122)) ∈ z_gw := z_mg 1388 (by decide +kernel) (by decide +kernel)
theorem zc_1404 : Cond.constantLong RX12 147 (Int64.ofInt (48)) ∈ z_gw := z_mg 1404 (by decide +kernel) (by decide +kernel)
theorem zc_1405 : Cond.constantLong RX12 149 (Int64.ofInt (57)) ∈ z_gw := z_mg 1405 (by decide +kernel) (by decide +kernel)
theorem zc_1538 : Cond.constantLong RX12 281 (Int64.ofInt (9)) ∈ z_gw := z_mg 1538 (by decide +kernel) (by decide +kernel)
theorem zc_1610 : Cond.constantLong RX12 334 (Int64.ofInt (2)) ∈ z_gw := z_mg 1610 (by decide +kernel) (by decide +kernel)
theorem zc_1631 : Cond.constantLong RX12 351 (Int64.ofInt (3)) ∈ z_gw := z_mg 1631 (by decide +kernel) (by decide +kernel)
theorem zc_1773 : Cond.constantLong RX12 422 (Int64.ofInt (17)) ∈ z_gw := z_mg 1773 (by decide +kernel) (by decide +kernel)
theorem zc_1774 : Cond.constantLong RX12 424 (Int64.ofInt (31)) ∈ z_gw := z_mg 1774 (by decide +kernel) (by decide +kernel)
theorem zc_786 : Cond.constantLong RJ13 314 (Int64.ofInt (6148914691236517205)) ∈ z_gw := z_mg 786 (by decide +kernel) (by decide +kernel)
theorem zc_787 : Cond.constantLong RJ13 316 (Int64.ofInt (3689348814741910323)) ∈ z_gw := z_mg 787 (by decide +kernel) (by decide +kernel)
theorem zc_788 : Cond.constantLong RJ13 318 (Int64.ofInt (1085102592571150095)) ∈ z_gw := z_mg 788 (by decide +kernel) (by decide +kernel)
theorem zc_797 : Cond.constantLong RX3 29 (Int64.ofInt (-1)) ∈ z_gw := z_mg 797 (by decide +kernel) (by decide +kernel)
theorem zc_847 : Cond.constantLong RX11 182 (Int64.ofInt (-1)) ∈ z_gw := z_mg 847 (by decide +kernel) (by decide +kernel)
theorem zc_931 : Cond.constantLong RX5 88 (Int64.ofInt (-1)) ∈ z_gw := z_mg 931 (by decide +kernel) (by decide +kernel)
theorem zs_X0_46 : z_VL RX0 46 m_X3_isHinge 3 := ⟨zq_1086, zq_713, zq_714, _, rfl, rfl⟩
theorem zs_X10_101 : z_VL RX10 101 m_X6_turnBehind 6 := ⟨zq_892, zq_741, zq_742, _, rfl, rfl⟩
theorem zs_X10_107 : z_VL RX10 107 m_X6_xBehind 6 := ⟨zq_893, zq_725, zq_726, _, rfl, rfl⟩
theorem zs_X10_116 : z_VL RX10 116 m_X6_yBehind 6 := ⟨zq_896, zq_735, zq_736, _, rfl, rfl⟩
theorem zs_X10_42 : z_VL RX10 42 m_X3_isHinge 3 := ⟨zq_870, zq_713, zq_714, _, rfl, rfl⟩
theorem zs_X10_48 : z_VL RX10 48 m_X10_lookAt 10 := ⟨zq_871, zq_873, zq_29, _, rfl, rfl⟩
theorem zs_X10_52 : z_VL RX10 52 m_X10_cutOff 10 := ⟨zq_875, zq_877, zq_30, _, rfl, rfl⟩
theorem zs_X10_61 : z_VL RX10 61 m_X10_layDown 10 := ⟨zq_879, zq_881, zq_31, _, rfl, rfl⟩
theorem zs_X10_64 : z_VL RX10 64 m_X9_faceOf 9 := ⟨zq_887, zq_754, zq_755, _, rfl, rfl⟩
theorem zs_X10_72 : z_VL RX10 72 m_X10_between 10 := ⟨zq_888, zq_890, zq_33, _, rfl, rfl⟩
theorem zs_X10_76 : z_VL RX10 76 m_X10_compare 10 := ⟨zq_897, zq_899, zq_34, _, rfl, rfl⟩
theorem zs_X10_98 : z_VL RX10 98 m_X10_howManyAt 10 := ⟨zq_883, zq_885, zq_32, _, rfl, rfl⟩
theorem zs_X11_100 : z_VL RX11 100 m_X4_read 4 := ⟨zq_587, zq_588, zq_589, _, rfl, rfl⟩
theorem zs_X11_110 : z_VL RX11 110 m_X9_make 9 := ⟨zq_637, zq_638, zq_639, _, rfl, rfl⟩
theorem zs_X11_114 : z_VL RX11 114 m_X3_begin 3 := ⟨zq_688, zq_689, zq_690, _, rfl, rfl⟩
theorem zs_X11_117 : z_VL RX11 117 m_X2_forget 2 := ⟨zq_692, zq_693, zq_694, _, rfl, rfl⟩
theorem zs_X11_120 : z_VL RX11 120 m_X11_settle 11 := ⟨zq_696, zq_698, zq_19, _, rfl, rfl⟩
theorem zs_X11_126 : z_VL RX11 126 m_X11_isEdge 11 := ⟨zq_748, zq_750, zq_22, _, rfl, rfl⟩
theorem zs_X11_130 : z_VL RX11 130 m_X3_isHinge 3 := ⟨zq_752, zq_713, zq_714, _, rfl, rfl⟩
theorem zs_X11_133 : z_VL RX11 133 m_X9_faceOf 9 := ⟨zq_753, zq_754, zq_755, _, rfl, rfl⟩
theorem zs_X11_141 : z_VL RX11 141 m_X9_isJoined 9 := ⟨zq_757, zq_758, zq_759, _, rfl, rfl⟩
theorem zs_X11_145 : z_VL RX11 145 m_X2_remember 2 := ⟨zq_765, zq_766, zq_767, _, rfl, rfl⟩
theorem zs_X11_149 : z_VL RX11 149 m_X3_setHinge 3 := ⟨zq_775, zq_776, zq_777, _, rfl, rfl⟩
theorem zs_X11_152 : z_VL RX11 152 m_X3_howMany 3 := ⟨zq_779, zq_780, zq_781, _, rfl, rfl⟩
theorem zs_X11_156 : z_VL RX11 156 m_X3_setCut 3 := ⟨zq_793, zq_794, zq_795, _, rfl, rfl⟩
theorem zs_X11_159 : z_VL RX11 159 m_X11_isFace 11 := ⟨zq_802, zq_804, zq_23, _, rfl, rfl⟩
theorem zs_X11_168 : z_VL RX11 168 m_X11_spanBy 11 := ⟨zq_814, zq_816, zq_24, _, rfl, rfl⟩
theorem zs_X11_175 : z_VL RX11 175 m_X9_growByBreadth 9 := ⟨zq_822, zq_823, zq_824, _, rfl, rfl⟩
theorem zs_X11_179 : z_VL RX11 179 m_X9_growByDepth 9 := ⟨zq_839, zq_840, zq_841, _, rfl, rfl⟩
theorem zs_X11_184 : z_VL RX11 184 m_X11_allJoined 11 := ⟨zq_848, zq_850, zq_28, _, rfl, rfl⟩
theorem zs_X11_188 : z_VL RX11 188 m_X3_swap 3 := ⟨zq_852, zq_853, zq_854, _, rfl, rfl⟩
theorem zs_X11_192 : z_VL RX11 192 m_X6_overlap 6 := ⟨zq_858, zq_859, zq_860, _, rfl, rfl⟩
theorem zs_X11_195 : z_VL RX11 195 m_X10_look 10 := ⟨zq_866, zq_867, zq_868, _, rfl, rfl⟩
theorem zs_X11_207 : z_VL RX11 207 m_X5_find 5 := ⟨zq_905, zq_906, zq_907, _, rfl, rfl⟩
theorem zs_X11_212 : z_VL RX11 212 m_X2_bringBack 2 := ⟨zq_940, zq_941, zq_942, _, rfl, rfl⟩
theorem zs_X11_219 : z_VL RX11 219 m_X11_isShelf 11 := ⟨zq_948, zq_950, zq_38, _, rfl, rfl⟩
theorem zs_X11_222 : z_VL RX11 222 m_X11_netFaces 11 := ⟨zq_952, zq_954, zq_39, _, rfl, rfl⟩
theorem zs_X11_225 : z_VL RX11 225 m_X8_draw 8 := ⟨zq_956, zq_957, zq_958, _, rfl, rfl⟩
theorem zs_X11_229 : z_VL RX11 229 m_X7_store 7 := ⟨zq_976, zq_977, zq_978, _, rfl, rfl⟩
theorem zs_X11_240 : z_VL RX11 240 m_X3_copy 3 := ⟨zq_986, zq_770, zq_771, _, rfl, rfl⟩
theorem zs_X11_249 : z_VL RX11 249 m_X11_hingesOf 11 := ⟨zq_991, zq_993, zq_43, _, rfl, rfl⟩
theorem zs_X11_252 : z_VL RX11 252 m_X6_holds 6 := ⟨zq_995, zq_717, zq_718, _, rfl, rfl⟩
theorem zs_X11_267 : z_VL RX11 267 m_X11_isFree 11 := ⟨zq_1004, zq_1006, zq_44, _, rfl, rfl⟩
theorem zs_X11_273 : z_VL RX11 273 m_X11_isVertex 11 := ⟨zq_1016, zq_1018, zq_45, _, rfl, rfl⟩
theorem zs_X11_279 : z_VL RX11 279 m_X11_cutsAt 11 := ⟨zq_1024, zq_1026, zq_46, _, rfl, rfl⟩
theorem zs_X11_282 : z_SL RX11 282 m_X11_nextSlot := ⟨zq_1028, zq_686⟩
theorem zs_X11_297 : z_VL RX11 297 m_X6_least 6 := ⟨zq_1041, zq_1042, zq_1043, _, rfl, rfl⟩
theorem zs_X11_301 : z_VL RX11 301 m_X6_greatest 6 := ⟨zq_1046, zq_1047, zq_1048, _, rfl, rfl⟩
theorem zs_X11_307 : z_VL RX11 307 m_X9_reach 9 := ⟨zq_1055, zq_762, zq_763, _, rfl, rfl⟩
theorem zs_X11_311 : z_VL RX11 311 m_X9_walkBack 9 := ⟨zq_1060, zq_1061, zq_1062, _, rfl, rfl⟩
theorem zs_X11_315 : z_VL RX11 315 m_X9_faceOnWay 9 := ⟨zq_1065, zq_1066, zq_1067, _, rfl, rfl⟩
theorem zs_X11_318 : z_VL RX11 318 m_X11_traceBorder 11 := ⟨zq_1077, zq_1079, zq_47, _, rfl, rfl⟩
theorem zs_X11_333 : z_VL RX11 333 m_X1_findAll 1 := ⟨zq_1092, zq_1093, zq_1094, _, rfl, rfl⟩
theorem zs_X11_340 : z_VL RX11 340 m_X11_gluings 11 := ⟨zq_1135, zq_1089, zq_1090, _, rfl, rfl⟩
theorem zs_X11_343 : z_VL RX11 343 m_X1_unpack 1 := ⟨zq_1136, zq_1137, zq_1138, _, rfl, rfl⟩
theorem zs_X11_349 : z_VL RX11 349 m_X1_measure 1 := ⟨zq_1148, zq_1149, zq_1150, _, rfl, rfl⟩
theorem zs_X11_353 : z_VL RX11 353 m_X1_numberOf 1 := ⟨zq_1156, zq_1157, zq_1158, _, rfl, rfl⟩
theorem zs_X11_357 : z_VL RX11 357 m_X8_number 8 := ⟨zq_1169, zq_1170, zq_1171, _, rfl, rfl⟩
theorem zs_X11_368 : z_VL RX11 368 m_X8_isSame 8 := ⟨zq_1179, zq_1180, zq_1181, _, rfl, rfl⟩
theorem zs_X11_376 : z_VL RX11 376 m_X11_keptBits 11 := ⟨zq_1191, zq_1193, zq_58, _, rfl, rfl⟩
theorem zs_X11_379 : z_VL RX11 379 m_X11_free 11 := ⟨zq_1195, zq_1070, zq_1071, _, rfl, rfl⟩
theorem zs_X11_382 : z_VL RX11 382 m_X6_lay 6 := ⟨zq_700, zq_701, zq_702, _, rfl, rfl⟩
theorem zs_X11_391 : z_VL RX11 391 m_X6_meet 6 := ⟨zq_1008, zq_1009, zq_1010, _, rfl, rfl⟩
theorem zs_X11_395 : z_VL RX11 395 m_X0_trace 0 := ⟨zq_1081, zq_1082, zq_1083, _, rfl, rfl⟩
theorem zs_X11_96 : z_VL RX11 96 m_X11_putFour 11 := ⟨zq_575, zq_577, zq_0, _, rfl, rfl⟩
theorem zs_X12_118 : z_VL RX12 118 m_X12_puts 12 := ⟨zq_1359, zq_1361, zq_59, _, rfl, rfl⟩
theorem zs_X12_125 : z_VL RX12 125 m_X12_sign 12 := ⟨zq_1379, zq_1381, zq_62, _, rfl, rfl⟩
theorem zs_X12_132 : z_VL RX12 132 m_X12_isRight 12 := ⟨zq_1396, zq_1398, zq_65, _, rfl, rfl⟩
theorem zs_X12_136 : z_VL RX12 136 m_X12_next 12 := ⟨zq_1375, zq_1377, zq_61, _, rfl, rfl⟩
theorem zs_X12_143 : z_SL RX12 143 m_X12_in := ⟨zq_1389, zq_1390⟩
theorem zs_X12_151 : z_VL RX12 151 m_X12_fails 12 := ⟨zq_1392, zq_1394, zq_64, _, rfl, rfl⟩
theorem zs_X12_168 : z_VL RX12 168 m_X12_takesCube 12 := ⟨zq_1383, zq_1385, zq_63, _, rfl, rfl⟩
theorem zs_X12_171 : z_VL RX12 171 m_X12_number 12 := ⟨zq_1400, zq_1402, zq_66, _, rfl, rfl⟩
theorem zs_X12_174 : z_VL RX12 174 m_X12_canStand 12 := ⟨zq_1407, zq_1409, zq_67, _, rfl, rfl⟩
theorem zs_X12_178 : z_VL RX12 178 m_X12_areAskew 12 := ⟨zq_1416, zq_1418, zq_69, _, rfl, rfl⟩
theorem zs_X12_182 : z_VL RX12 182 m_X12_hasBetween 12 := ⟨zq_1423, zq_1425, zq_70, _, rfl, rfl⟩
theorem zs_X12_185 : z_SL RX12 185 m_X12_truth := ⟨zq_1420, zq_1421⟩
theorem zs_X12_189 : z_VL RX12 189 m_X12_readsPart 12 := ⟨zq_1371, zq_1373, zq_60, _, rfl, rfl⟩
theorem zs_X12_192 : z_VL RX12 192 m_X12_isSolid 12 := ⟨zq_1412, zq_1414, zq_68, _, rfl, rfl⟩
theorem zs_X12_195 : z_SL RX12 195 m_X12_moves := ⟨zq_1427, zq_1428⟩
theorem zs_X12_202 : z_VL RX12 202 m_X12_laysSkin 12 := ⟨zq_1430, zq_1432, zq_71, _, rfl, rfl⟩
theorem zs_X12_223 : z_SL RX12 223 m_X12_wayOf := ⟨zq_1448, zq_1449⟩
theorem zs_X12_226 : z_VL RX12 226 m_X12_cubeAt 12 := ⟨zq_1434, zq_1436, zq_72, _, rfl, rfl⟩
theorem zs_X12_230 : z_VL RX12 230 m_X12_faceOf 12 := ⟨zq_1455, zq_1457, zq_74, _, rfl, rfl⟩
theorem zs_X12_233 : z_SL RX12 233 m_X12_sideTo := ⟨zq_1459, zq_1460⟩
theorem zs_X12_236 : z_VL RX12 236 m_X12_laysBehind 12 := ⟨zq_1444, zq_1446, zq_73, _, rfl, rfl⟩
theorem zs_X12_239 : z_VL RX12 239 m_X12_laysEdges 12 := ⟨zq_1462, zq_1464, zq_75, _, rfl, rfl⟩
theorem zs_X12_242 : z_VL RX12 242 m_X12_laysVertices 12 := ⟨zq_1470, zq_1472, zq_77, _, rfl, rfl⟩
theorem zs_X12_248 : z_VL RX12 248 m_X12_mate 12 := ⟨zq_1466, zq_1468, zq_76, _, rfl, rfl⟩
theorem zs_X12_254 : z_VL RX12 254 m_X12_hinges 12 := ⟨zq_1482, zq_1484, zq_78, _, rfl, rfl⟩
theorem zs_X12_257 : z_VL RX12 257 m_X12_isHinge 12 := ⟨zq_1498, zq_1500, zq_80, _, rfl, rfl⟩
theorem zs_X12_260 : z_VL RX12 260 m_X12_joins 12 := ⟨zq_1514, zq_1516, zq_84, _, rfl, rfl⟩
theorem zs_X12_263 : z_VL RX12 263 m_X12_isEdge 12 := ⟨zq_1494, zq_1496, zq_79, _, rfl, rfl⟩
theorem zs_X12_266 : z_VL RX12 266 m_X12_firstOf 12 := ⟨zq_1502, zq_1504, zq_81, _, rfl, rfl⟩
theorem zs_X12_269 : z_VL RX12 269 m_X12_secondOf 12 := ⟨zq_1506, zq_1508, zq_82, _, rfl, rfl⟩
theorem zs_X12_272 : z_VL RX12 272 m_X12_areJoined 12 := ⟨zq_1510, zq_1512, zq_83, _, rfl, rfl⟩
theorem zs_X12_275 : z_VL RX12 275 m_X12_keepsPast 12 := ⟨zq_1518, zq_1520, zq_85, _, rfl, rfl⟩
theorem zs_X12_278 : z_VL RX12 278 m_X12_isFace 12 := ⟨zq_1530, zq_1532, zq_86, _, rfl, rfl⟩
theorem zs_X12_283 : z_VL RX12 283 m_X12_cutsAll 12 := ⟨zq_1543, zq_1545, zq_87, _, rfl, rfl⟩
theorem zs_X12_286 : z_VL RX12 286 m_X12_goesDeep 12 := ⟨zq_1555, zq_1557, zq_89, _, rfl, rfl⟩
theorem zs_X12_289 : z_VL RX12 289 m_X12_goesWide 12 := ⟨zq_1551, zq_1553, zq_88, _, rfl, rfl⟩
theorem zs_X12_295 : z_SL RX12 295 m_X12_stepX := ⟨zq_1584, zq_1585⟩
theorem zs_X12_298 : z_SL RX12 298 m_X12_stepY := ⟨zq_1587, zq_1588⟩
theorem zs_X12_301 : z_VL RX12 301 m_X12_rolls 12 := ⟨zq_1580, zq_1582, zq_94, _, rfl, rfl⟩
theorem zs_X12_304 : z_VL RX12 304 m_X12_places 12 := ⟨zq_1576, zq_1578, zq_93, _, rfl, rfl⟩
theorem zs_X12_307 : z_VL RX12 307 m_X12_areOver 12 := ⟨zq_1590, zq_1592, zq_95, _, rfl, rfl⟩
theorem zs_X12_310 : z_VL RX12 310 m_X12_overlaps 12 := ⟨zq_1572, zq_1574, zq_92, _, rfl, rfl⟩
theorem zs_X12_322 : z_VL RX12 322 m_X12_tradedTo 12 := ⟨zq_1568, zq_1570, zq_91, _, rfl, rfl⟩
theorem zs_X12_325 : z_VL RX12 325 m_X12_isWhole 12 := ⟨zq_1564, zq_1566, zq_90, _, rfl, rfl⟩
theorem zs_X12_328 : z_VL RX12 328 m_X12_trades 12 := ⟨zq_1594, zq_1596, zq_96, _, rfl, rfl⟩
theorem zs_X12_331 : z_VL RX12 331 m_X12_laysBest 12 := ⟨zq_1602, zq_1604, zq_97, _, rfl, rfl⟩
theorem zs_X12_342 : z_VL RX12 342 m_X12_leastEdge 12 := ⟨zq_1619, zq_1621, zq_99, _, rfl, rfl⟩
theorem zs_X12_345 : z_VL RX12 345 m_X12_isTaken 12 := ⟨zq_1623, zq_1625, zq_100, _, rfl, rfl⟩
theorem zs_X12_348 : z_VL RX12 348 m_X12_finds 12 := ⟨zq_1615, zq_1617, zq_98, _, rfl, rfl⟩
theorem zs_X12_353 : z_VL RX12 353 m_X12_isFree 12 := ⟨zq_1640, zq_1642, zq_101, _, rfl, rfl⟩
theorem zs_X12_356 : z_VL RX12 356 m_X12_cutsAt 12 := ⟨zq_1652, zq_1654, zq_102, _, rfl, rfl⟩
theorem zs_X12_359 : z_VL RX12 359 m_X12_isCutSide 12 := ⟨zq_1688, zq_1690, zq_104, _, rfl, rfl⟩
theorem zs_X12_365 : z_SL RX12 365 m_X12_nextSide := ⟨zq_1692, zq_1693⟩
theorem zs_X12_368 : z_VL RX12 368 m_X12_laysRim 12 := ⟨zq_1684, zq_1686, zq_103, _, rfl, rfl⟩
theorem zs_X12_371 : z_VL RX12 371 m_X12_partner 12 := ⟨zq_1695, zq_1697, zq_105, _, rfl, rfl⟩
theorem zs_X12_374 : z_VL RX12 374 m_X12_pointOf 12 := ⟨zq_1719, zq_1721, zq_110, _, rfl, rfl⟩
theorem zs_X12_377 : z_VL RX12 377 m_X12_makesOne 12 := ⟨zq_1715, zq_1717, zq_109, _, rfl, rfl⟩
theorem zs_X12_380 : z_VL RX12 380 m_X12_laysPoints 12 := ⟨zq_1711, zq_1713, zq_108, _, rfl, rfl⟩
theorem zs_X12_389 : z_VL RX12 389 m_X12_areFree 12 := ⟨zq_1723, zq_1725, zq_111, _, rfl, rfl⟩
theorem zs_X12_392 : z_VL RX12 392 m_X12_glues 12 := ⟨zq_1707, zq_1709, zq_107, _, rfl, rfl⟩
theorem zs_X12_395 : z_VL RX12 395 m_X12_laysGluings 12 := ⟨zq_1703, zq_1705, zq_106, _, rfl, rfl⟩
theorem zs_X12_398 : z_VL RX12 398 m_X12_laysOne 12 := ⟨zq_1731, zq_1733, zq_112, _, rfl, rfl⟩
theorem zs_X12_401 : z_VL RX12 401 m_X12_isOwn 12 := ⟨zq_1743, zq_1745, zq_113, _, rfl, rfl⟩
theorem zs_X12_404 : z_SL RX12 404 m_X12_turnedX := ⟨zq_1759, zq_1760⟩
theorem zs_X12_407 : z_SL RX12 407 m_X12_turnedY := ⟨zq_1762, zq_1763⟩
theorem zs_X12_410 : z_VL RX12 410 m_X12_sorts 12 := ⟨zq_1765, zq_1767, zq_116, _, rfl, rfl⟩
theorem zs_X12_413 : z_VL RX12 413 m_X12_laysCells 12 := ⟨zq_1755, zq_1757, zq_115, _, rfl, rfl⟩
theorem zs_X12_416 : z_VL RX12 416 m_X12_isLess 12 := ⟨zq_1769, zq_1771, zq_117, _, rfl, rfl⟩
theorem zs_X12_419 : z_VL RX12 419 m_X12_laysOutline 12 := ⟨zq_1751, zq_1753, zq_114, _, rfl, rfl⟩
theorem zs_X12_426 : z_VL RX12 426 m_X12_unfree 12 := ⟨zq_1783, zq_1785, zq_118, _, rfl, rfl⟩
theorem zs_X1_101 : z_VL RX1 101 m_X1_isGluedLike 1 := ⟨zq_1161, zq_1163, zq_57, _, rfl, rfl⟩
theorem zs_X1_43 : z_VL RX1 43 m_X1_begin 1 := ⟨zq_1096, zq_1098, zq_48, _, rfl, rfl⟩
theorem zs_X1_47 : z_VL RX1 47 m_X1_open 1 := ⟨zq_1101, zq_1103, zq_49, _, rfl, rfl⟩
theorem zs_X1_52 : z_VL RX1 52 m_X1_glueNext 1 := ⟨zq_1106, zq_1108, zq_50, _, rfl, rfl⟩
theorem zs_X1_56 : z_VL RX1 56 m_X1_store 1 := ⟨zq_1119, zq_1121, zq_53, _, rfl, rfl⟩
theorem zs_X1_59 : z_VL RX1 59 m_X1_takeUp 1 := ⟨zq_1127, zq_1129, zq_55, _, rfl, rfl⟩
theorem zs_X1_80 : z_VL RX1 80 m_X1_glueTwo 1 := ⟨zq_1111, zq_1113, zq_51, _, rfl, rfl⟩
theorem zs_X1_84 : z_VL RX1 84 m_X1_wordOf 1 := ⟨zq_1123, zq_1125, zq_54, _, rfl, rfl⟩
theorem zs_X1_88 : z_VL RX1 88 m_X1_makeOne 1 := ⟨zq_1115, zq_1117, zq_52, _, rfl, rfl⟩
theorem zs_X1_91 : z_VL RX1 91 m_X1_glueWithLastOpen 1 := ⟨zq_1140, zq_1142, zq_56, _, rfl, rfl⟩
theorem zs_X1_98 : z_VL RX1 98 m_X1_unpack 1 := ⟨zq_1160, zq_1137, zq_1138, _, rfl, rfl⟩
theorem zs_X2_25 : z_VL RX2 25 m_X3_copy 3 := ⟨zq_769, zq_770, zq_771, _, rfl, rfl⟩
theorem zs_X3_31 : z_VL RX3 31 m_X3_setCut 3 := ⟨zq_856, zq_794, zq_795, _, rfl, rfl⟩
theorem zs_X3_35 : z_VL RX3 35 m_X3_setHinge 3 := ⟨zq_857, zq_776, zq_777, _, rfl, rfl⟩
theorem zs_X3_38 : z_SL RX3 38 m_J13_bitCount_95d88 := ⟨zq_783, zq_784⟩
theorem zs_X4_34 : z_VL RX4 34 m_X4_readCube 4 := ⟨zq_594, zq_596, zq_1, _, rfl, rfl⟩
theorem zs_X4_38 : z_VL RX4 38 m_X4_toNext 4 := ⟨zq_598, zq_600, zq_2, _, rfl, rfl⟩
theorem zs_X4_41 : z_VL RX4 41 m_X4_isSolid 4 := ⟨zq_625, zq_627, zq_8, _, rfl, rfl⟩
theorem zs_X4_45 : z_VL RX4 45 m_X4_passWord 4 := ⟨zq_602, zq_604, zq_3, _, rfl, rfl⟩
theorem zs_X4_48 : z_VL RX4 48 m_X4_passNumber 4 := ⟨zq_606, zq_608, zq_4, _, rfl, rfl⟩
theorem zs_X4_51 : z_VL RX4 51 m_X4_canStand 4 := ⟨zq_610, zq_612, zq_5, _, rfl, rfl⟩
theorem zs_X4_55 : z_VL RX4 55 m_X4_distance 4 := ⟨zq_614, zq_616, zq_6, _, rfl, rfl⟩
theorem zs_X4_62 : z_VL RX4 62 m_X4_apart 4 := ⟨zq_618, zq_620, zq_7, _, rfl, rfl⟩
theorem zs_X4_66 : z_VL RX4 66 m_X4_shareEdge 4 := ⟨zq_629, zq_631, zq_9, _, rfl, rfl⟩
theorem zs_X4_70 : z_VL RX4 70 m_X4_haveThird 4 := ⟨zq_633, zq_635, zq_10, _, rfl, rfl⟩
theorem zs_X5_38 : z_VL RX5 38 m_X6_putRoot 6 := ⟨zq_909, zq_705, zq_706, _, rfl, rfl⟩
theorem zs_X5_45 : z_VL RX5 45 m_X5_leastEdge 5 := ⟨zq_910, zq_912, zq_35, _, rfl, rfl⟩
theorem zs_X5_49 : z_VL RX5 49 m_X5_tell 5 := ⟨zq_916, zq_918, zq_36, _, rfl, rfl⟩
theorem zs_X5_53 : z_VL RX5 53 m_X5_turnBack 5 := ⟨zq_927, zq_929, zq_37, _, rfl, rfl⟩
theorem zs_X5_60 : z_VL RX5 60 m_X9_faceOf 9 := ⟨zq_914, zq_754, zq_755, _, rfl, rfl⟩
theorem zs_X5_64 : z_VL RX5 64 m_X6_holds 6 := ⟨zq_915, zq_717, zq_718, _, rfl, rfl⟩
theorem zs_X5_71 : z_VL RX5 71 m_X6_xBehind 6 := ⟨zq_920, zq_725, zq_726, _, rfl, rfl⟩
theorem zs_X5_75 : z_VL RX5 75 m_X6_yBehind 6 := ⟨zq_921, zq_735, zq_736, _, rfl, rfl⟩
theorem zs_X5_78 : z_VL RX5 78 m_X6_isTaken 6 := ⟨zq_922, zq_923, zq_924, _, rfl, rfl⟩
theorem zs_X5_85 : z_VL RX5 85 m_X6_putBehind 6 := ⟨zq_926, zq_721, zq_722, _, rfl, rfl⟩
theorem zs_X5_90 : z_VL RX5 90 m_X6_takeLast 6 := ⟨zq_932, zq_933, zq_934, _, rfl, rfl⟩
theorem zs_X6_44 : z_VL RX6 44 m_X6_putRoot 6 := ⟨zq_704, zq_705, zq_706, _, rfl, rfl⟩
theorem zs_X6_51 : z_VL RX6 51 m_X3_isHinge 3 := ⟨zq_712, zq_713, zq_714, _, rfl, rfl⟩
theorem zs_X6_58 : z_VL RX6 58 m_X6_holds 6 := ⟨zq_716, zq_717, zq_718, _, rfl, rfl⟩
theorem zs_X6_61 : z_VL RX6 61 m_X6_putBehind 6 := ⟨zq_720, zq_721, zq_722, _, rfl, rfl⟩
theorem zs_X6_64 : z_VL RX6 64 m_X6_add 6 := ⟨zq_708, zq_710, zq_20, _, rfl, rfl⟩
theorem zs_X6_67 : z_VL RX6 67 m_X6_xBehind 6 := ⟨zq_724, zq_725, zq_726, _, rfl, rfl⟩
theorem zs_X6_71 : z_VL RX6 71 m_X6_yBehind 6 := ⟨zq_734, zq_735, zq_736, _, rfl, rfl⟩
theorem zs_X6_74 : z_VL RX6 74 m_X6_turnBehind 6 := ⟨zq_740, zq_741, zq_742, _, rfl, rfl⟩
theorem zs_X6_81 : z_VL RX6 81 m_X6_look 6 := ⟨zq_730, zq_732, zq_21, _, rfl, rfl⟩
theorem zs_X7_46 : z_VL RX7 46 m_X3_copy 3 := ⟨zq_981, zq_770, zq_771, _, rfl, rfl⟩
theorem zs_X8_34 : z_VL RX8 34 m_X8_turn 8 := ⟨zq_961, zq_963, zq_40, _, rfl, rfl⟩
theorem zs_X8_38 : z_VL RX8 38 m_X8_sort 8 := ⟨zq_967, zq_969, zq_41, _, rfl, rfl⟩
theorem zs_X8_41 : z_VL RX8 41 m_X8_isTrialFirst 8 := ⟨zq_971, zq_973, zq_42, _, rfl, rfl⟩
theorem zs_X9_106 : z_VL RX9 106 m_X9_slotOf 9 := ⟨zq_670, zq_672, zq_16, _, rfl, rfl⟩
theorem zs_X9_112 : z_VL RX9 112 m_X9_goRound 9 := ⟨zq_681, zq_683, zq_18, _, rfl, rfl⟩
theorem zs_X9_118 : z_VL RX9 118 m_X9_reach 9 := ⟨zq_761, zq_762, zq_763, _, rfl, rfl⟩
theorem zs_X9_122 : z_VL RX9 122 m_X9_isJoined 9 := ⟨zq_1064, zq_758, zq_759, _, rfl, rfl⟩
theorem zs_X9_135 : z_VL RX9 135 m_X3_setHinge 3 := ⟨zq_834, zq_776, zq_777, _, rfl, rfl⟩
theorem zs_X9_139 : z_VL RX9 139 m_X9_startTree 9 := ⟨zq_826, zq_828, zq_25, _, rfl, rfl⟩
theorem zs_X9_143 : z_VL RX9 143 m_X9_growBehind 9 := ⟨zq_830, zq_832, zq_26, _, rfl, rfl⟩
theorem zs_X9_147 : z_VL RX9 147 m_X9_greatestDepth 9 := ⟨zq_835, zq_837, zq_27, _, rfl, rfl⟩
theorem zs_X9_79 : z_VL RX9 79 m_X9_findFaces 9 := ⟨zq_645, zq_647, zq_11, _, rfl, rfl⟩
theorem zs_X9_82 : z_VL RX9 82 m_X9_findEdges 9 := ⟨zq_660, zq_662, zq_14, _, rfl, rfl⟩
theorem zs_X9_85 : z_VL RX9 85 m_X9_findVertices 9 := ⟨zq_677, zq_679, zq_17, _, rfl, rfl⟩
theorem zs_X9_88 : z_VL RX9 88 m_X9_cubeBeside 9 := ⟨zq_649, zq_651, zq_12, _, rfl, rfl⟩
theorem zs_X9_92 : z_SL RX9 92 m_X9_step := ⟨zq_653, zq_654⟩
theorem zs_X9_95 : z_VL RX9 95 m_X9_isAway 9 := ⟨zq_656, zq_658, zq_13, _, rfl, rfl⟩
theorem zs_X9_99 : z_VL RX9 99 m_X9_joinSide 9 := ⟨zq_664, zq_666, zq_15, _, rfl, rfl⟩

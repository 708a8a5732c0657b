set_option maxRecDepth 20000 in
theorem V_X12_in {a b c : Int}  {μ : z_Mem} {d : Nat} {K : Int → z_Mem → Prop} (h : (a < b → K 0 μ) ∧ (b ≤ a → (c < a → K 0 μ) ∧ (a ≤ c → K 1 μ))) : z_ci m_X12_in [(1, a), (1, b), (1, c)] μ d K := by
  show z_R m_X12_in 0 [some (1, a), none, some (1, b), none, some (1, c), none] [] z_n μ d _
  refine z_lload_n dX12_in_0 rfl ?_
  refine z_lload_n dX12_in_1 rfl ?_
  refine z_lcmp_lt (tgt := 17) dX12_in_2 dX12_in_3 (by decide) (fun q1 => ?_) (fun q2 => ?_)
  · refine z_iconst dX12_in_17 ⟨by decide, by decide⟩ ?_
    exact z_zreturn dX12_in_18 rfl rfl (by decide) ⟨_, rfl, (h.1 q1)⟩
  · refine z_lload_n dX12_in_6 rfl ?_
    refine z_lload dX12_in_7 rfl ?_
    refine z_lcmp_gt (tgt := 17) dX12_in_9 dX12_in_10 (by decide) (fun q3 => ?_) (fun q4 => ?_)
    · refine z_iconst dX12_in_17 ⟨by decide, by decide⟩ ?_
      exact z_zreturn dX12_in_18 rfl rfl (by decide) ⟨_, rfl, ((h.2 q2).1 q3)⟩
    · refine z_iconst dX12_in_13 ⟨by decide, by decide⟩ ?_
      refine z_goto (tgt := 18) dX12_in_14 (by decide) ?_
      exact z_zreturn dX12_in_18 rfl rfl (by decide) ⟨_, rfl, ((h.2 q2).2 q4)⟩
set_option maxRecDepth 20000 in
theorem V_X12_truth {a : Int}  {μ : z_Mem} {d : Nat} {K : Int → z_Mem → Prop} (h : (a = 0 → K 0 μ) ∧ (¬ a = 0 → K 1 μ)) : z_ci m_X12_truth [(0, a)] μ d K := by
  show z_R m_X12_truth 0 [some (0, a)] [] z_n μ d _
  refine z_iload_n dX12_truth_0 rfl ?_
  refine z_if_eq (tgt := 8) dX12_truth_1 (by decide) (fun q1 => ?_) (fun q2 => ?_)
  · refine z_iconst dX12_truth_8 ⟨by decide, by decide⟩ ?_
    exact z_ireturn dX12_truth_9 rfl rfl ⟨_, rfl, (h.1 q1)⟩
  · refine z_iconst dX12_truth_4 ⟨by decide, by decide⟩ ?_
    refine z_goto (tgt := 9) dX12_truth_5 (by decide) ?_
    exact z_ireturn dX12_truth_9 rfl rfl ⟨_, rfl, (h.2 q2)⟩
set_option maxRecDepth 20000 in
theorem V_X12_moves {r0 n0 a r2 n2 b : Int} (hr0 : z_kd r0 = 14 ∧ z_ln r0 = n0) (hr2 : z_kd r2 = 14 ∧ z_ln r2 = n2) {μ : z_Mem} {d : Nat} {K : z_Mem → Prop} (h : z_rn m_X12_moves 3 [some (2, r0), some (0, a), some (2, r2), some (0, b), some (0, 0)] μ d K) : z_cn m_X12_moves [(2, r0), (0, a), (2, r2), (0, b)] μ d K := by
  show z_R m_X12_moves 0 [some (2, r0), some (0, a), some (2, r2), some (0, b), none] [] z_n μ d _
  refine z_iconst dX12_moves_0 ⟨by decide, by decide⟩ ?_
  refine n_istore (lo' := [some (2, r0), some (0, a), some (2, r2), some (0, b), some (0, 0)]) dX12_moves_1 ⟨Nat.le_of_ble_eq_true rfl, Nat.le_of_ble_eq_true rfl⟩ rfl ?_
  refine z_drop [some (2, r0), some (0, a), some (2, r2), some (0, b), some (0, 0)] ⟨rfl, rfl, rfl, rfl, rfl, trivial⟩ ?_
  exact h
set_option maxRecDepth 20000 in
theorem V_X12_moves_3 {v1 v3 v4 r0 n0 r2 n2 : Int} (hr0 : z_kd r0 = 14 ∧ z_ln r0 = n0) (hr2 : z_kd r2 = 14 ∧ z_ln r2 = n2) {μ : z_Mem} {d : Nat} {K : z_Mem → Prop} (h : (143 ≤ v4 → K μ) ∧ (v4 < 143 → z_I (v3 + v4) ∧ (z_I (v1 + v4) ∧ (((0 : Int) ≤ v1 + v4 ∧ v1 + v4 < n0) ∧ (((0 : Int) ≤ v3 + v4 ∧ v3 + v4 < n2) ∧ (z_I (v4 + 1) ∧ (z_rn m_X12_moves 3 [some (2, r0), some (0, v1), some (2, r2), some (0, v3), some (0, v4 + 1)] (z_st μ r2 (v3 + v4) (μ r0 (v1 + v4))) d K))))))) : z_rn m_X12_moves 3 [some (2, r0), some (0, v1), some (2, r2), some (0, v3), some (0, v4)] μ d K := by
  show z_R m_X12_moves 3 [some (2, r0), some (0, v1), some (2, r2), some (0, v3), some (0, v4)] [] z_n μ d _
  refine z_iload dX12_moves_3 rfl ?_
  refine z_sipush dX12_moves_5 (by decide) ?_
  refine z_icmp_ge (tgt := 29) dX12_moves_8 (by decide) (fun q1 => ?_) (fun q2 => ?_)
  · exact z_return dX12_moves_29 rfl rfl ⟨rfl, (h.1 q1)⟩
  · refine z_aload_n dX12_moves_11 rfl ?_
    refine z_iload_n dX12_moves_12 rfl ?_
    refine z_iload dX12_moves_13 rfl ?_
    refine z_iadd dX12_moves_15 (h.2 q2).1 ?_
    refine z_aload_n dX12_moves_16 rfl ?_
    refine z_iload_n dX12_moves_17 rfl ?_
    refine z_iload dX12_moves_18 rfl ?_
    refine z_iadd dX12_moves_20 (h.2 q2).2.1 ?_
    refine n_iald dX12_moves_21 hr0 (h.2 q2).2.2.1 ?_
    refine n_iast dX12_moves_22 hr2 (h.2 q2).2.2.2.1 ?_
    refine n_iinc (lo' := [some (2, r0), some (0, v1), some (2, r2), some (0, v3), some (0, v4 + 1)]) dX12_moves_23 rfl (by decide) (h.2 q2).2.2.2.2.1 rfl ?_
    refine z_goto (tgt := 3) dX12_moves_26 (by decide) ?_
    refine z_drop [some (2, r0), some (0, v1), some (2, r2), some (0, v3), some (0, v4 + 1)] ⟨rfl, rfl, rfl, rfl, rfl, trivial⟩ ?_
    exact (h.2 q2).2.2.2.2.2
set_option maxRecDepth 20000 in
theorem V_X12_feed {a b c e f : Int}  {μ : z_Mem} {d : Nat} {K : Int → z_Mem → Prop} (h : z_I ((μ 113 8) + 20) ∧ (((μ 113 8) + 20 ≤ 200 → z_cn m_X12_puts [(2, 113), (0, a)] μ d (fun m3 => z_cn m_X12_puts [(2, 113), (0, b)] m3 d (fun m5 => z_cn m_X12_puts [(2, 113), (0, c)] m5 d (fun m7 => z_cn m_X12_puts [(2, 113), (0, e)] m7 d (fun m9 => z_cn m_X12_puts [(2, 113), (0, f)] m9 d (fun m11 => K (m11 113 8) m11)))))) ∧ (200 < (μ 113 8) + 20 → K (-1) μ))) : z_ci m_X12_feed [(2, 113), (0, a), (0, b), (0, c), (0, e), (0, f)] μ (d + 1) K := by
  show z_R m_X12_feed 0 [some (2, 113), some (0, a), some (0, b), some (0, c), some (0, e), some (0, f)] [] z_n μ (d + 1) _
  refine z_aload_n dX12_feed_0 rfl ?_
  refine n_getf (ji := 8) (t := 0) dX12_feed_1 zf_X12_114 k_113 rfl (by decide) rfl ?_
  refine z_bipush dX12_feed_4 (by decide) ?_
  refine z_iadd dX12_feed_6 h.1 ?_
  refine z_sipush dX12_feed_7 (by decide) ?_
  refine z_icmp_le (tgt := 15) dX12_feed_10 (by decide) (fun q1 => ?_) (fun q2 => ?_)
  · refine z_aload_n dX12_feed_15 rfl ?_
    refine z_iload_n dX12_feed_16 rfl ?_
    refine n_vN (as := [(0, a)]) (rest := []) dX12_feed_17 zm_X12_puts zs_X12_118 k_113 (by decide) rfl rfl (Nat.le_of_ble_eq_true rfl) (Nat.le_of_ble_eq_true rfl) (h.2.1 q1) (fun m3 h4 => ?_)
    refine z_aload_n dX12_feed_20 rfl ?_
    refine z_iload_n dX12_feed_21 rfl ?_
    refine n_vN (as := [(0, b)]) (rest := []) dX12_feed_22 zm_X12_puts zs_X12_118 k_113 (by decide) rfl rfl (Nat.le_of_ble_eq_true rfl) (Nat.le_of_ble_eq_true rfl) h4 (fun m5 h6 => ?_)
    refine z_aload_n dX12_feed_25 rfl ?_
    refine z_iload_n dX12_feed_26 rfl ?_
    refine n_vN (as := [(0, c)]) (rest := []) dX12_feed_27 zm_X12_puts zs_X12_118 k_113 (by decide) rfl rfl (Nat.le_of_ble_eq_true rfl) (Nat.le_of_ble_eq_true rfl) h6 (fun m7 h8 => ?_)
    refine z_aload_n dX12_feed_30 rfl ?_
    refine z_iload dX12_feed_31 rfl ?_
    refine n_vN (as := [(0, e)]) (rest := []) dX12_feed_33 zm_X12_puts zs_X12_118 k_113 (by decide) rfl rfl (Nat.le_of_ble_eq_true rfl) (Nat.le_of_ble_eq_true rfl) h8 (fun m9 h10 => ?_)
    refine z_aload_n dX12_feed_36 rfl ?_
    refine z_iload dX12_feed_37 rfl ?_
    refine n_vN (as := [(0, f)]) (rest := []) dX12_feed_39 zm_X12_puts zs_X12_118 k_113 (by decide) rfl rfl (Nat.le_of_ble_eq_true rfl) (Nat.le_of_ble_eq_true rfl) h10 (fun m11 h12 => ?_)
    refine z_aload_n dX12_feed_42 rfl ?_
    refine n_getf (ji := 8) (t := 0) dX12_feed_43 zf_X12_114 k_113 rfl (by decide) rfl ?_
    exact z_ireturn dX12_feed_46 rfl rfl ⟨_, rfl, h12⟩
  · refine z_iconst dX12_feed_13 ⟨by decide, by decide⟩ ?_
    exact z_ireturn dX12_feed_14 rfl rfl ⟨_, rfl, (h.2.2 q2)⟩
set_option maxRecDepth 20000 in
theorem V_X12_puts {a : Int}  {μ : z_Mem} {d : Nat} {K : z_Mem → Prop} (h : z_rn m_X12_puts 3 [some (2, 113), some (0, a), some (0, 24)] μ d K) : z_cn m_X12_puts [(2, 113), (0, a)] μ d K := by
  show z_R m_X12_puts 0 [some (2, 113), some (0, a), none] [] z_n μ d _
  refine z_bipush dX12_puts_0 (by decide) ?_
  refine n_istore_n (lo' := [some (2, 113), some (0, a), some (0, 24)]) dX12_puts_2 ⟨Nat.le_of_ble_eq_true rfl, Nat.le_of_ble_eq_true rfl⟩ rfl ?_
  refine z_drop [some (2, 113), some (0, a), some (0, 24)] ⟨rfl, rfl, rfl, trivial⟩ ?_
  exact h
set_option maxRecDepth 20000 in
theorem V_X12_puts_3 {v1 v2 : Int}  {μ : z_Mem} {d : Nat} {K : z_Mem → Prop} (h : (v2 < 0 → K μ) ∧ (0 ≤ v2 → ((0 : Int) ≤ v2 ∧ v2 < 32) ∧ (((0 : Int) ≤ μ 113 8 ∧ μ 113 8 < 200) ∧ (((-128 : Int) ≤ Int.bmod (v1 / 2 ^ (v2 : Int).toNat) 256 ∧ Int.bmod (v1 / 2 ^ (v2 : Int).toNat) 256 ≤ 127) ∧ (z_I (((z_st μ 120 (μ 113 8) (Int.bmod (v1 / 2 ^ (v2 : Int).toNat) 256)) 113 8) + 1) ∧ (z_I (v2 + (-8)) ∧ (z_rn m_X12_puts 3 [some (2, 113), some (0, v1), some (0, v2 + (-8))] (z_st (z_st μ 120 (μ 113 8) (Int.bmod (v1 / 2 ^ (v2 : Int).toNat) 256)) 113 8 (((z_st μ 120 (μ 113 8) (Int.bmod (v1 / 2 ^ (v2 : Int).toNat) 256)) 113 8) + 1)) d K))))))) : z_rn m_X12_puts 3 [some (2, 113), some (0, v1), some (0, v2)] μ d K := by
  show z_R m_X12_puts 3 [some (2, 113), some (0, v1), some (0, v2)] [] z_n μ d _
  refine z_iload_n dX12_puts_3 rfl ?_
  refine z_if_lt (tgt := 36) dX12_puts_4 (by decide) (fun q1 => ?_) (fun q2 => ?_)
  · exact z_return dX12_puts_36 rfl rfl ⟨rfl, (h.1 q1)⟩
  · refine z_aload_n dX12_puts_7 rfl ?_
    refine n_getp (ji := 7) dX12_puts_8 zf_X12_29 k_113 rfl (by decide) rfl p_113_7 ?_
    refine z_aload_n dX12_puts_11 rfl ?_
    refine n_getf (ji := 8) (t := 0) dX12_puts_12 zf_X12_114 k_113 rfl (by decide) rfl ?_
    refine z_iload_n dX12_puts_15 rfl ?_
    refine z_iload_n dX12_puts_16 rfl ?_
    refine n_ishr dX12_puts_17 (h.2 q2).1 rfl ?_
    refine z_i2b_ dX12_puts_18 ?_
    refine n_bast dX12_puts_19 k_120 (h.2 q2).2.1 (h.2 q2).2.2.1 ?_
    refine z_aload_n dX12_puts_20 rfl ?_
    refine z_dup dX12_puts_21 rfl ?_
    refine n_getf (ji := 8) (t := 0) dX12_puts_22 zf_X12_114 k_113 rfl (by decide) rfl ?_
    refine z_iconst dX12_puts_25 ⟨by decide, by decide⟩ ?_
    refine z_iadd dX12_puts_26 (h.2 q2).2.2.2.1 ?_
    refine n_putI (ji := 8) dX12_puts_27 zf_X12_114 k_113 rfl (by decide) rfl ?_
    refine n_iinc (lo' := [some (2, 113), some (0, v1), some (0, v2 + (-8))]) dX12_puts_30 rfl (by decide) (h.2 q2).2.2.2.2.1 rfl ?_
    refine z_goto (tgt := 3) dX12_puts_33 (by decide) ?_
    refine z_drop [some (2, 113), some (0, v1), some (0, v2 + (-8))] ⟨rfl, rfl, rfl, trivial⟩ ?_
    exact (h.2 q2).2.2.2.2.2
set_option maxRecDepth 20000 in
theorem V_X12_end {a : Int}  {μ : z_Mem} {d : Nat} {K : Int → z_Mem → Prop} (h : (a < 0 → K (-1) μ) ∧ (0 ≤ a → (a ≤ μ 113 8 → K a (z_st μ 113 8 a)) ∧ (μ 113 8 < a → K (-1) μ))) : z_ci m_X12_end [(2, 113), (0, a)] μ d K := by
  show z_R m_X12_end 0 [some (2, 113), some (0, a)] [] z_n μ d _
  refine z_iload_n dX12_end_0 rfl ?_
  refine z_if_lt (tgt := 12) dX12_end_1 (by decide) (fun q1 => ?_) (fun q2 => ?_)
  · refine z_iconst dX12_end_12 ⟨by decide, by decide⟩ ?_
    exact z_ireturn dX12_end_13 rfl rfl ⟨_, rfl, (h.1 q1)⟩
  · refine z_iload_n dX12_end_4 rfl ?_
    refine z_aload_n dX12_end_5 rfl ?_
    refine n_getf (ji := 8) (t := 0) dX12_end_6 zf_X12_114 k_113 rfl (by decide) rfl ?_
    refine z_icmp_le (tgt := 14) dX12_end_9 (by decide) (fun q3 => ?_) (fun q4 => ?_)
    · refine z_aload_n dX12_end_14 rfl ?_
      refine z_iload_n dX12_end_15 rfl ?_
      refine n_putI (ji := 8) dX12_end_16 zf_X12_114 k_113 rfl (by decide) rfl ?_
      refine z_iload_n dX12_end_19 rfl ?_
      exact z_ireturn dX12_end_20 rfl rfl ⟨_, rfl, ((h.2 q2).1 q3)⟩
    · refine z_iconst dX12_end_12 ⟨by decide, by decide⟩ ?_
      exact z_ireturn dX12_end_13 rfl rfl ⟨_, rfl, ((h.2 q2).2 q4)⟩
set_option maxRecDepth 20000 in
theorem V_X12_sign  {μ : z_Mem} {d : Nat} {K : Int → z_Mem → Prop} (h : (μ 113 8 ≤ μ 113 9 → K (-1) μ) ∧ (μ 113 9 < μ 113 8 → ((0 : Int) ≤ μ 113 9 ∧ μ 113 9 < 200) ∧ (K ((μ 120 (μ 113 9)) % 256) μ))) : z_ci m_X12_sign [(2, 113)] μ d K := by
  show z_R m_X12_sign 0 [some (2, 113)] [] z_n μ d _
  refine z_aload_n dX12_sign_0 rfl ?_
  refine n_getf (ji := 9) (t := 0) dX12_sign_1 zf_X12_122 k_113 rfl (by decide) rfl ?_
  refine z_aload_n dX12_sign_4 rfl ?_
  refine n_getf (ji := 8) (t := 0) dX12_sign_5 zf_X12_114 k_113 rfl (by decide) rfl ?_
  refine z_icmp_ge (tgt := 27) dX12_sign_8 (by decide) (fun q1 => ?_) (fun q2 => ?_)
  · refine z_iconst dX12_sign_27 ⟨by decide, by decide⟩ ?_
    exact z_ireturn dX12_sign_28 rfl rfl ⟨_, rfl, (h.1 q1)⟩
  · refine z_aload_n dX12_sign_11 rfl ?_
    refine n_getp (ji := 7) dX12_sign_12 zf_X12_29 k_113 rfl (by decide) rfl p_113_7 ?_
    refine z_aload_n dX12_sign_15 rfl ?_
    refine n_getf (ji := 9) (t := 0) dX12_sign_16 zf_X12_122 k_113 rfl (by decide) rfl ?_
    refine n_bald dX12_sign_19 k_120 (h.2 q2).1 ?_
    refine z_sipush dX12_sign_20 (by decide) ?_
    refine n_iandm (k := 8) (m := 256) dX12_sign_23 (by decide) (by decide) ?_
    refine z_goto (tgt := 28) dX12_sign_24 (by decide) ?_
    exact z_ireturn dX12_sign_28 rfl rfl ⟨_, rfl, (h.2 q2).2⟩
set_option maxRecDepth 20000 in
theorem V_X12_next  {μ : z_Mem} {d : Nat} {K : Int → z_Mem → Prop} (h : z_ci m_X12_sign [(2, 113)] μ d (fun x3 m1 => (¬ x3 = 32 → z_ci m_X12_sign [(2, 113)] m1 d (fun x8 m6 => K x8 m6)) ∧ (x3 = 32 → z_I ((m1 113 9) + 1) ∧ (z_ri m_X12_next 0 [some (2, 113)] (z_st m1 113 9 ((m1 113 9) + 1)) (d + 1) K)))) : z_ci m_X12_next [(2, 113)] μ (d + 1) K := by
  show z_R m_X12_next 0 [some (2, 113)] [] z_n μ (d + 1) _
  refine z_aload_n dX12_next_0 rfl ?_
  refine n_vI (as := []) (rest := []) dX12_next_1 zm_X12_sign zs_X12_125 k_113 (by decide) rfl rfl (Nat.le_of_ble_eq_true rfl) (Nat.le_of_ble_eq_true rfl) h (fun x3 m1 h2 => ?_)
  refine z_bipush dX12_next_4 (by decide) ?_
  refine z_icmp_ne (tgt := 22) dX12_next_6 (by decide) (fun q4 => ?_) (fun q5 => ?_)
  · refine z_aload_n dX12_next_22 rfl ?_
    refine n_vI (as := []) (rest := []) dX12_next_23 zm_X12_sign zs_X12_125 k_113 (by decide) rfl rfl (Nat.le_of_ble_eq_true rfl) (Nat.le_of_ble_eq_true rfl) (h2.1 q4) (fun x8 m6 h7 => ?_)
    exact z_ireturn dX12_next_26 rfl rfl ⟨_, rfl, h7⟩
  · refine z_aload_n dX12_next_9 rfl ?_
    refine z_dup dX12_next_10 rfl ?_
    refine n_getf (ji := 9) (t := 0) dX12_next_11 zf_X12_122 k_113 rfl (by decide) rfl ?_
    refine z_iconst dX12_next_14 ⟨by decide, by decide⟩ ?_
    refine z_iadd dX12_next_15 (h2.2 q5).1 ?_
    refine n_putI (ji := 9) dX12_next_16 zf_X12_122 k_113 rfl (by decide) rfl ?_
    refine z_goto (tgt := 0) dX12_next_19 (by decide) ?_
    refine z_drop [some (2, 113)] ⟨rfl, trivial⟩ ?_
    exact (h2.2 q5).2
set_option maxRecDepth 20000 in
theorem V_X12_next_0  {μ : z_Mem} {d : Nat} {K : Int → z_Mem → Prop} (h : z_ci m_X12_sign [(2, 113)] μ d (fun x3 m1 => (¬ x3 = 32 → z_ci m_X12_sign [(2, 113)] m1 d (fun x8 m6 => K x8 m6)) ∧ (x3 = 32 → z_I ((m1 113 9) + 1) ∧ (z_ri m_X12_next 0 [some (2, 113)] (z_st m1 113 9 ((m1 113 9) + 1)) (d + 1) K)))) : z_ri m_X12_next 0 [some (2, 113)] μ (d + 1) K := by
  show z_R m_X12_next 0 [some (2, 113)] [] z_n μ (d + 1) _
  refine z_aload_n dX12_next_0 rfl ?_
  refine n_vI (as := []) (rest := []) dX12_next_1 zm_X12_sign zs_X12_125 k_113 (by decide) rfl rfl (Nat.le_of_ble_eq_true rfl) (Nat.le_of_ble_eq_true rfl) h (fun x3 m1 h2 => ?_)
  refine z_bipush dX12_next_4 (by decide) ?_
  refine z_icmp_ne (tgt := 22) dX12_next_6 (by decide) (fun q4 => ?_) (fun q5 => ?_)
  · refine z_aload_n dX12_next_22 rfl ?_
    refine n_vI (as := []) (rest := []) dX12_next_23 zm_X12_sign zs_X12_125 k_113 (by decide) rfl rfl (Nat.le_of_ble_eq_true rfl) (Nat.le_of_ble_eq_true rfl) (h2.1 q4) (fun x8 m6 h7 => ?_)
    exact z_ireturn dX12_next_26 rfl rfl ⟨_, rfl, h7⟩
  · refine z_aload_n dX12_next_9 rfl ?_
    refine z_dup dX12_next_10 rfl ?_
    refine n_getf (ji := 9) (t := 0) dX12_next_11 zf_X12_122 k_113 rfl (by decide) rfl ?_
    refine z_iconst dX12_next_14 ⟨by decide, by decide⟩ ?_
    refine z_iadd dX12_next_15 (h2.2 q5).1 ?_
    refine n_putI (ji := 9) dX12_next_16 zf_X12_122 k_113 rfl (by decide) rfl ?_
    refine z_goto (tgt := 0) dX12_next_19 (by decide) ?_
    refine z_drop [some (2, 113)] ⟨rfl, trivial⟩ ?_
    exact (h2.2 q5).2
set_option maxRecDepth 20000 in
theorem V_X12_isRight  {μ : z_Mem} {d : Nat} {K : Int → z_Mem → Prop} (h : (¬ μ 113 10 = (-1) → K 0 μ) ∧ (μ 113 10 = (-1) → K 1 μ)) : z_ci m_X12_isRight [(2, 113)] μ d K := by
  show z_R m_X12_isRight 0 [some (2, 113)] [] z_n μ d _
  refine z_aload_n dX12_isRight_0 rfl ?_
  refine n_getf (ji := 10) (t := 0) dX12_isRight_1 zf_X12_129 k_113 rfl (by decide) rfl ?_
  refine z_iconst dX12_isRight_4 ⟨by decide, by decide⟩ ?_
  refine z_icmp_ne (tgt := 12) dX12_isRight_5 (by decide) (fun q1 => ?_) (fun q2 => ?_)
  · refine z_iconst dX12_isRight_12 ⟨by decide, by decide⟩ ?_
    exact z_zreturn dX12_isRight_13 rfl rfl (by decide) ⟨_, rfl, (h.1 q1)⟩
  · refine z_iconst dX12_isRight_8 ⟨by decide, by decide⟩ ?_
    refine z_goto (tgt := 13) dX12_isRight_9 (by decide) ?_
    exact z_zreturn dX12_isRight_13 rfl rfl (by decide) ⟨_, rfl, (h.2 q2)⟩
set_option maxRecDepth 20000 in
theorem V_X12_fails {a b : Int}  {μ : z_Mem} {d : Nat} {K : z_Mem → Prop} (h : z_ci m_X12_isRight [(2, 113)] μ d (fun x3 m1 => (x3 = 0 → K m1) ∧ (¬ x3 = 0 → z_I (8 * b) ∧ (z_I ((8 * b) + a) ∧ (K (z_st m1 113 10 ((8 * b) + a))))))) : z_cn m_X12_fails [(2, 113), (0, a), (0, b)] μ (d + 1) K := by
  show z_R m_X12_fails 0 [some (2, 113), some (0, a), some (0, b)] [] z_n μ (d + 1) _
  refine z_aload_n dX12_fails_0 rfl ?_
  refine n_vI (as := []) (rest := []) dX12_fails_1 zm_X12_isRight zs_X12_132 k_113 (by decide) rfl rfl (Nat.le_of_ble_eq_true rfl) (Nat.le_of_ble_eq_true rfl) h (fun x3 m1 h2 => ?_)
  refine z_if_eq (tgt := 17) dX12_fails_4 (by decide) (fun q4 => ?_) (fun q5 => ?_)
  · exact z_return dX12_fails_17 rfl rfl ⟨rfl, (h2.1 q4)⟩
  · refine z_aload_n dX12_fails_7 rfl ?_
    refine z_bipush dX12_fails_8 (by decide) ?_
    refine z_iload_n dX12_fails_10 rfl ?_
    refine z_imul dX12_fails_11 (h2.2 q5).1 ?_
    refine z_iload_n dX12_fails_12 rfl ?_
    refine z_iadd dX12_fails_13 (h2.2 q5).2.1 ?_
    refine n_putI (ji := 10) dX12_fails_14 zf_X12_129 k_113 rfl (by decide) rfl ?_
    exact z_return dX12_fails_17 rfl rfl ⟨rfl, (h2.2 q5).2.2⟩
set_option maxRecDepth 20000 in
theorem V_X12_takesCube  {μ : z_Mem} {d : Nat} {K : Int → z_Mem → Prop} (h : z_ci m_X12_next [(2, 113)] μ d (fun x3 m1 => z_ri m_X12_takesCube 7 [some (2, 113), some (0, 0), none] m1 (d + 1) K)) : z_ci m_X12_takesCube [(2, 113)] μ (d + 1) K := by
  show z_R m_X12_takesCube 0 [some (2, 113), none, none] [] z_n μ (d + 1) _
  refine z_aload_n dX12_takesCube_0 rfl ?_
  refine n_vI (as := []) (rest := []) dX12_takesCube_1 zm_X12_next zs_X12_136 k_113 (by decide) rfl rfl (Nat.le_of_ble_eq_true rfl) (Nat.le_of_ble_eq_true rfl) h (fun x3 m1 h2 => ?_)
  refine z_pop dX12_takesCube_4 rfl ?_
  refine z_iconst dX12_takesCube_5 ⟨by decide, by decide⟩ ?_
  refine n_istore_n (lo' := [some (2, 113), some (0, 0), none]) dX12_takesCube_6 ⟨Nat.le_of_ble_eq_true rfl, Nat.le_of_ble_eq_true rfl⟩ rfl ?_
  refine z_drop [some (2, 113), some (0, 0), none] ⟨rfl, rfl, trivial⟩ ?_
  exact h2
set_option maxRecDepth 20000 in
theorem V_X12_takesCube_7 {v1 : Int}  {μ : z_Mem} {d : Nat} {K : Int → z_Mem → Prop} (h : z_I ((μ 113 9) + v1) ∧ ((μ 113 8 ≤ (μ 113 9) + v1 → (¬ v1 = 4 → z_I ((μ 113 9) + 0) ∧ (K 0 (z_st μ 113 9 ((μ 113 9) + 0)))) ∧ (v1 = 4 → ((0 : Int) ≤ μ 113 9 ∧ μ 113 9 < 200) ∧ ((¬ μ 120 (μ 113 9) = 99 → z_I ((μ 113 9) + 0) ∧ (K 0 (z_st μ 113 9 ((μ 113 9) + 0)))) ∧ (μ 120 (μ 113 9) = 99 → z_I ((μ 113 9) + 1) ∧ (((0 : Int) ≤ (μ 113 9) + 1 ∧ (μ 113 9) + 1 < 200) ∧ ((¬ μ 120 ((μ 113 9) + 1) = 117 → z_I ((μ 113 9) + 0) ∧ (K 0 (z_st μ 113 9 ((μ 113 9) + 0)))) ∧ (μ 120 ((μ 113 9) + 1) = 117 → z_I ((μ 113 9) + 2) ∧ (((0 : Int) ≤ (μ 113 9) + 2 ∧ (μ 113 9) + 2 < 200) ∧ ((¬ μ 120 ((μ 113 9) + 2) = 98 → z_I ((μ 113 9) + 0) ∧ (K 0 (z_st μ 113 9 ((μ 113 9) + 0)))) ∧ (μ 120 ((μ 113 9) + 2) = 98 → z_I ((μ 113 9) + 3) ∧ (((0 : Int) ≤ (μ 113 9) + 3 ∧ (μ 113 9) + 3 < 200) ∧ ((¬ μ 120 ((μ 113 9) + 3) = 101 → z_I ((μ 113 9) + 0) ∧ (K 0 (z_st μ 113 9 ((μ 113 9) + 0)))) ∧ (μ 120 ((μ 113 9) + 3) = 101 → z_I ((μ 113 9) + v1) ∧ (K 1 (z_st μ 113 9 ((μ 113 9) + v1)))))))))))))))) ∧ ((μ 113 9) + v1 < μ 113 8 → z_I ((μ 113 9) + v1) ∧ (((0 : Int) ≤ (μ 113 9) + v1 ∧ (μ 113 9) + v1 < 200) ∧ (z_ci m_X12_in [(1, μ 120 ((μ 113 9) + v1)), (1, 97), (1, 122)] μ d (fun x21 m19 => (x21 = 0 → (¬ v1 = 4 → z_I ((m19 113 9) + 0) ∧ (K 0 (z_st m19 113 9 ((m19 113 9) + 0)))) ∧ (v1 = 4 → ((0 : Int) ≤ m19 113 9 ∧ m19 113 9 < 200) ∧ ((¬ m19 120 (m19 113 9) = 99 → z_I ((m19 113 9) + 0) ∧ (K 0 (z_st m19 113 9 ((m19 113 9) + 0)))) ∧ (m19 120 (m19 113 9) = 99 → z_I ((m19 113 9) + 1) ∧ (((0 : Int) ≤ (m19 113 9) + 1 ∧ (m19 113 9) + 1 < 200) ∧ ((¬ m19 120 ((m19 113 9) + 1) = 117 → z_I ((m19 113 9) + 0) ∧ (K 0 (z_st m19 113 9 ((m19 113 9) + 0)))) ∧ (m19 120 ((m19 113 9) + 1) = 117 → z_I ((m19 113 9) + 2) ∧ (((0 : Int) ≤ (m19 113 9) + 2 ∧ (m19 113 9) + 2 < 200) ∧ ((¬ m19 120 ((m19 113 9) + 2) = 98 → z_I ((m19 113 9) + 0) ∧ (K 0 (z_st m19 113 9 ((m19 113 9) + 0)))) ∧ (m19 120 ((m19 113 9) + 2) = 98 → z_I ((m19 113 9) + 3) ∧ (((0 : Int) ≤ (m19 113 9) + 3 ∧ (m19 113 9) + 3 < 200) ∧ ((¬ m19 120 ((m19 113 9) + 3) = 101 → z_I ((m19 113 9) + 0) ∧ (K 0 (z_st m19 113 9 ((m19 113 9) + 0)))) ∧ (m19 120 ((m19 113 9) + 3) = 101 → z_I ((m19 113 9) + v1) ∧ (K 1 (z_st m19 113 9 ((m19 113 9) + v1)))))))))))))))) ∧ (¬ x21 = 0 → z_I (v1 + 1) ∧ (z_ri m_X12_takesCube 7 [some (2, 113), some (0, v1 + 1), none] m19 (d + 1) K)))))))) : z_ri m_X12_takesCube 7 [some (2, 113), some (0, v1), none] μ (d + 1) K := by
  show z_R m_X12_takesCube 7 [some (2, 113), some (0, v1), none] [] z_n μ (d + 1) _
  refine z_aload_n dX12_takesCube_7 rfl ?_
  refine n_getf (ji := 9) (t := 0) dX12_takesCube_8 zf_X12_122 k_113 rfl (by decide) rfl ?_
  refine z_iload_n dX12_takesCube_11 rfl ?_
  refine z_iadd dX12_takesCube_12 h.1 ?_
  refine z_aload_n dX12_takesCube_13 rfl ?_
  refine n_getf (ji := 8) (t := 0) dX12_takesCube_14 zf_X12_114 k_113 rfl (by decide) rfl ?_
  refine z_icmp_ge (tgt := 50) dX12_takesCube_17 (by decide) (fun q1 => ?_) (fun q2 => ?_)
  · refine z_iload_n dX12_takesCube_50 rfl ?_
    refine z_iconst dX12_takesCube_51 ⟨by decide, by decide⟩ ?_
    refine z_icmp_ne (tgt := 121) dX12_takesCube_52 (by decide) (fun q3 => ?_) (fun q4 => ?_)
    · refine z_iconst dX12_takesCube_121 ⟨by decide, by decide⟩ ?_
      refine n_istore_n (lo' := [some (2, 113), some (0, v1), some (0, 0)]) dX12_takesCube_122 ⟨Nat.le_of_ble_eq_true rfl, Nat.le_of_ble_eq_true rfl⟩ rfl ?_
      refine z_aload_n dX12_takesCube_123 rfl ?_
      refine z_dup dX12_takesCube_124 rfl ?_
      refine n_getf (ji := 9) (t := 0) dX12_takesCube_125 zf_X12_122 k_113 rfl (by decide) rfl ?_
      refine z_iload_n dX12_takesCube_128 rfl ?_
      refine z_if_eq (tgt := 136) dX12_takesCube_129 (by decide) (fun _ => ?_) (fun q5 => absurd q5 (by decide))
      refine z_iconst dX12_takesCube_136 ⟨by decide, by decide⟩ ?_
      refine z_iadd dX12_takesCube_137 ((h.2.1 q1).1 q3).1 ?_
      refine n_putI (ji := 9) dX12_takesCube_138 zf_X12_122 k_113 rfl (by decide) rfl ?_
      refine z_iload_n dX12_takesCube_141 rfl ?_
      exact z_zreturn dX12_takesCube_142 rfl rfl (by decide) ⟨_, rfl, ((h.2.1 q1).1 q3).2⟩
    · refine z_aload_n dX12_takesCube_55 rfl ?_
      refine n_getp (ji := 7) dX12_takesCube_56 zf_X12_29 k_113 rfl (by decide) rfl p_113_7 ?_
      refine z_aload_n dX12_takesCube_59 rfl ?_
      refine n_getf (ji := 9) (t := 0) dX12_takesCube_60 zf_X12_122 k_113 rfl (by decide) rfl ?_
      refine n_bald dX12_takesCube_63 k_120 ((h.2.1 q1).2 q4).1 ?_
      refine z_bipush dX12_takesCube_64 (by decide) ?_
      refine z_icmp_ne (tgt := 121) dX12_takesCube_66 (by decide) (fun q6 => ?_) (fun q7 => ?_)
      · refine z_iconst dX12_takesCube_121 ⟨by decide, by decide⟩ ?_
        refine n_istore_n (lo' := [some (2, 113), some (0, v1), some (0, 0)]) dX12_takesCube_122 ⟨Nat.le_of_ble_eq_true rfl, Nat.le_of_ble_eq_true rfl⟩ rfl ?_
        refine z_aload_n dX12_takesCube_123 rfl ?_
        refine z_dup dX12_takesCube_124 rfl ?_
        refine n_getf (ji := 9) (t := 0) dX12_takesCube_125 zf_X12_122 k_113 rfl (by decide) rfl ?_
        refine z_iload_n dX12_takesCube_128 rfl ?_
        refine z_if_eq (tgt := 136) dX12_takesCube_129 (by decide) (fun _ => ?_) (fun q8 => absurd q8 (by decide))
        refine z_iconst dX12_takesCube_136 ⟨by decide, by decide⟩ ?_
        refine z_iadd dX12_takesCube_137 (((h.2.1 q1).2 q4).2.1 q6).1 ?_
        refine n_putI (ji := 9) dX12_takesCube_138 zf_X12_122 k_113 rfl (by decide) rfl ?_
        refine z_iload_n dX12_takesCube_141 rfl ?_
        exact z_zreturn dX12_takesCube_142 rfl rfl (by decide) ⟨_, rfl, (((h.2.1 q1).2 q4).2.1 q6).2⟩
      · refine z_aload_n dX12_takesCube_69 rfl ?_
        refine n_getp (ji := 7) dX12_takesCube_70 zf_X12_29 k_113 rfl (by decide) rfl p_113_7 ?_
        refine z_aload_n dX12_takesCube_73 rfl ?_
        refine n_getf (ji := 9) (t := 0) dX12_takesCube_74 zf_X12_122 k_113 rfl (by decide) rfl ?_
        refine z_iconst dX12_takesCube_77 ⟨by decide, by decide⟩ ?_
        refine z_iadd dX12_takesCube_78 (((h.2.1 q1).2 q4).2.2 q7).1 ?_
        refine n_bald dX12_takesCube_79 k_120 (((h.2.1 q1).2 q4).2.2 q7).2.1 ?_
        refine z_bipush dX12_takesCube_80 (by decide) ?_
        refine z_icmp_ne (tgt := 121) dX12_takesCube_82 (by decide) (fun q9 => ?_) (fun q10 => ?_)
        · refine z_iconst dX12_takesCube_121 ⟨by decide, by decide⟩ ?_
          refine n_istore_n (lo' := [some (2, 113), some (0, v1), some (0, 0)]) dX12_takesCube_122 ⟨Nat.le_of_ble_eq_true rfl, Nat.le_of_ble_eq_true rfl⟩ rfl ?_
          refine z_aload_n dX12_takesCube_123 rfl ?_
          refine z_dup dX12_takesCube_124 rfl ?_
          refine n_getf (ji := 9) (t := 0) dX12_takesCube_125 zf_X12_122 k_113 rfl (by decide) rfl ?_
          refine z_iload_n dX12_takesCube_128 rfl ?_
          refine z_if_eq (tgt := 136) dX12_takesCube_129 (by decide) (fun _ => ?_) (fun q11 => absurd q11 (by decide))
          refine z_iconst dX12_takesCube_136 ⟨by decide, by decide⟩ ?_
          refine z_iadd dX12_takesCube_137 ((((h.2.1 q1).2 q4).2.2 q7).2.2.1 q9).1 ?_
          refine n_putI (ji := 9) dX12_takesCube_138 zf_X12_122 k_113 rfl (by decide) rfl ?_
          refine z_iload_n dX12_takesCube_141 rfl ?_
          exact z_zreturn dX12_takesCube_142 rfl rfl (by decide) ⟨_, rfl, ((((h.2.1 q1).2 q4).2.2 q7).2.2.1 q9).2⟩
        · refine z_aload_n dX12_takesCube_85 rfl ?_
          refine n_getp (ji := 7) dX12_takesCube_86 zf_X12_29 k_113 rfl (by decide) rfl p_113_7 ?_
          refine z_aload_n dX12_takesCube_89 rfl ?_
          refine n_getf (ji := 9) (t := 0) dX12_takesCube_90 zf_X12_122 k_113 rfl (by decide) rfl ?_
          refine z_iconst dX12_takesCube_93 ⟨by decide, by decide⟩ ?_
          refine z_iadd dX12_takesCube_94 ((((h.2.1 q1).2 q4).2.2 q7).2.2.2 q10).1 ?_
          refine n_bald dX12_takesCube_95 k_120 ((((h.2.1 q1).2 q4).2.2 q7).2.2.2 q10).2.1 ?_
          refine z_bipush dX12_takesCube_96 (by decide) ?_
          refine z_icmp_ne (tgt := 121) dX12_takesCube_98 (by decide) (fun q12 => ?_) (fun q13 => ?_)
          · refine z_iconst dX12_takesCube_121 ⟨by decide, by decide⟩ ?_
            refine n_istore_n (lo' := [some (2, 113), some (0, v1), some (0, 0)]) dX12_takesCube_122 ⟨Nat.le_of_ble_eq_true rfl, Nat.le_of_ble_eq_true rfl⟩ rfl ?_
            refine z_aload_n dX12_takesCube_123 rfl ?_
            refine z_dup dX12_takesCube_124 rfl ?_
            refine n_getf (ji := 9) (t := 0) dX12_takesCube_125 zf_X12_122 k_113 rfl (by decide) rfl ?_
            refine z_iload_n dX12_takesCube_128 rfl ?_
            refine z_if_eq (tgt := 136) dX12_takesCube_129 (by decide) (fun _ => ?_) (fun q14 => absurd q14 (by decide))
            refine z_iconst dX12_takesCube_136 ⟨by decide, by decide⟩ ?_
            refine z_iadd dX12_takesCube_137 (((((h.2.1 q1).2 q4).2.2 q7).2.2.2 q10).2.2.1 q12).1 ?_
            refine n_putI (ji := 9) dX12_takesCube_138 zf_X12_122 k_113 rfl (by decide) rfl ?_
            refine z_iload_n dX12_takesCube_141 rfl ?_
            exact z_zreturn dX12_takesCube_142 rfl rfl (by decide) ⟨_, rfl, (((((h.2.1 q1).2 q4).2.2 q7).2.2.2 q10).2.2.1 q12).2⟩
          · refine z_aload_n dX12_takesCube_101 rfl ?_
            refine n_getp (ji := 7) dX12_takesCube_102 zf_X12_29 k_113 rfl (by decide) rfl p_113_7 ?_
            refine z_aload_n dX12_takesCube_105 rfl ?_
            refine n_getf (ji := 9) (t := 0) dX12_takesCube_106 zf_X12_122 k_113 rfl (by decide) rfl ?_
            refine z_iconst dX12_takesCube_109 ⟨by decide, by decide⟩ ?_
            refine z_iadd dX12_takesCube_110 (((((h.2.1 q1).2 q4).2.2 q7).2.2.2 q10).2.2.2 q13).1 ?_
            refine n_bald dX12_takesCube_111 k_120 (((((h.2.1 q1).2 q4).2.2 q7).2.2.2 q10).2.2.2 q13).2.1 ?_
            refine z_bipush dX12_takesCube_112 (by decide) ?_
            refine z_icmp_ne (tgt := 121) dX12_takesCube_114 (by decide) (fun q15 => ?_) (fun q16 => ?_)
            · refine z_iconst dX12_takesCube_121 ⟨by decide, by decide⟩ ?_
              refine n_istore_n (lo' := [some (2, 113), some (0, v1), some (0, 0)]) dX12_takesCube_122 ⟨Nat.le_of_ble_eq_true rfl, Nat.le_of_ble_eq_true rfl⟩ rfl ?_
              refine z_aload_n dX12_takesCube_123 rfl ?_
              refine z_dup dX12_takesCube_124 rfl ?_
              refine n_getf (ji := 9) (t := 0) dX12_takesCube_125 zf_X12_122 k_113 rfl (by decide) rfl ?_
              refine z_iload_n dX12_takesCube_128 rfl ?_
              refine z_if_eq (tgt := 136) dX12_takesCube_129 (by decide) (fun _ => ?_) (fun q17 => absurd q17 (by decide))
              refine z_iconst dX12_takesCube_136 ⟨by decide, by decide⟩ ?_
              refine z_iadd dX12_takesCube_137 ((((((h.2.1 q1).2 q4).2.2 q7).2.2.2 q10).2.2.2 q13).2.2.1 q15).1 ?_
              refine n_putI (ji := 9) dX12_takesCube_138 zf_X12_122 k_113 rfl (by decide) rfl ?_
              refine z_iload_n dX12_takesCube_141 rfl ?_
              exact z_zreturn dX12_takesCube_142 rfl rfl (by decide) ⟨_, rfl, ((((((h.2.1 q1).2 q4).2.2 q7).2.2.2 q10).2.2.2 q13).2.2.1 q15).2⟩
            · refine z_iconst dX12_takesCube_117 ⟨by decide, by decide⟩ ?_
              refine z_goto (tgt := 122) dX12_takesCube_118 (by decide) ?_
              refine n_istore_n (lo' := [some (2, 113), some (0, v1), some (0, 1)]) dX12_takesCube_122 ⟨Nat.le_of_ble_eq_true rfl, Nat.le_of_ble_eq_true rfl⟩ rfl ?_
              refine z_aload_n dX12_takesCube_123 rfl ?_
              refine z_dup dX12_takesCube_124 rfl ?_
              refine n_getf (ji := 9) (t := 0) dX12_takesCube_125 zf_X12_122 k_113 rfl (by decide) rfl ?_
              refine z_iload_n dX12_takesCube_128 rfl ?_
              refine z_if_eq (tgt := 136) dX12_takesCube_129 (by decide) (fun q18 => absurd q18 (by decide)) (fun _ => ?_)
              refine z_iload_n dX12_takesCube_132 rfl ?_
              refine z_goto (tgt := 137) dX12_takesCube_133 (by decide) ?_
              refine z_iadd dX12_takesCube_137 ((((((h.2.1 q1).2 q4).2.2 q7).2.2.2 q10).2.2.2 q13).2.2.2 q16).1 ?_
              refine n_putI (ji := 9) dX12_takesCube_138 zf_X12_122 k_113 rfl (by decide) rfl ?_
              refine z_iload_n dX12_takesCube_141 rfl ?_
              exact z_zreturn dX12_takesCube_142 rfl rfl (by decide) ⟨_, rfl, ((((((h.2.1 q1).2 q4).2.2 q7).2.2.2 q10).2.2.2 q13).2.2.2 q16).2⟩
  · refine z_aload_n dX12_takesCube_20 rfl ?_
    refine n_getp (ji := 7) dX12_takesCube_21 zf_X12_29 k_113 rfl (by decide) rfl p_113_7 ?_
    refine z_aload_n dX12_takesCube_24 rfl ?_
    refine n_getf (ji := 9) (t := 0) dX12_takesCube_25 zf_X12_122 k_113 rfl (by decide) rfl ?_
    refine z_iload_n dX12_takesCube_28 rfl ?_
    refine z_iadd dX12_takesCube_29 (h.2.2 q2).1 ?_
    refine n_bald dX12_takesCube_30 k_120 (h.2.2 q2).2.1 ?_
    refine z_i2l_ dX12_takesCube_31 ?_
    refine z_ldc2 (n := 97) dX12_takesCube_32 zc_1387 ⟨by decide, by decide⟩ ?_
    refine z_ldc2 (n := 122) dX12_takesCube_35 zc_1388 ⟨by decide, by decide⟩ ?_
    refine n_sI (as := [(1, μ 120 ((μ 113 9) + v1)), (1, 97), (1, 122)]) (rest := []) dX12_takesCube_38 zm_X12_in zs_X12_143 rfl rfl (Nat.le_of_ble_eq_true rfl) (Nat.le_of_ble_eq_true rfl) (h.2.2 q2).2.2 (fun x21 m19 h20 => ?_)
    refine z_if_eq (tgt := 50) dX12_takesCube_41 (by decide) (fun q22 => ?_) (fun q23 => ?_)
    · refine z_iload_n dX12_takesCube_50 rfl ?_
      refine z_iconst dX12_takesCube_51 ⟨by decide, by decide⟩ ?_
      refine z_icmp_ne (tgt := 121) dX12_takesCube_52 (by decide) (fun q24 => ?_) (fun q25 => ?_)
      · refine z_iconst dX12_takesCube_121 ⟨by decide, by decide⟩ ?_
        refine n_istore_n (lo' := [some (2, 113), some (0, v1), some (0, 0)]) dX12_takesCube_122 ⟨Nat.le_of_ble_eq_true rfl, Nat.le_of_ble_eq_true rfl⟩ rfl ?_
        refine z_aload_n dX12_takesCube_123 rfl ?_
        refine z_dup dX12_takesCube_124 rfl ?_
        refine n_getf (ji := 9) (t := 0) dX12_takesCube_125 zf_X12_122 k_113 rfl (by decide) rfl ?_
        refine z_iload_n dX12_takesCube_128 rfl ?_
        refine z_if_eq (tgt := 136) dX12_takesCube_129 (by decide) (fun _ => ?_) (fun q26 => absurd q26 (by decide))
        refine z_iconst dX12_takesCube_136 ⟨by decide, by decide⟩ ?_
        refine z_iadd dX12_takesCube_137 ((h20.1 q22).1 q24).1 ?_
        refine n_putI (ji := 9) dX12_takesCube_138 zf_X12_122 k_113 rfl (by decide) rfl ?_
        refine z_iload_n dX12_takesCube_141 rfl ?_
        exact z_zreturn dX12_takesCube_142 rfl rfl (by decide) ⟨_, rfl, ((h20.1 q22).1 q24).2⟩
      · refine z_aload_n dX12_takesCube_55 rfl ?_
        refine n_getp (ji := 7) dX12_takesCube_56 zf_X12_29 k_113 rfl (by decide) rfl p_113_7 ?_
        refine z_aload_n dX12_takesCube_59 rfl ?_
        refine n_getf (ji := 9) (t := 0) dX12_takesCube_60 zf_X12_122 k_113 rfl (by decide) rfl ?_
        refine n_bald dX12_takesCube_63 k_120 ((h20.1 q22).2 q25).1 ?_
        refine z_bipush dX12_takesCube_64 (by decide) ?_
        refine z_icmp_ne (tgt := 121) dX12_takesCube_66 (by decide) (fun q27 => ?_) (fun q28 => ?_)
        · refine z_iconst dX12_takesCube_121 ⟨by decide, by decide⟩ ?_
          refine n_istore_n (lo' := [some (2, 113), some (0, v1), some (0, 0)]) dX12_takesCube_122 ⟨Nat.le_of_ble_eq_true rfl, Nat.le_of_ble_eq_true rfl⟩ rfl ?_
          refine z_aload_n dX12_takesCube_123 rfl ?_
          refine z_dup dX12_takesCube_124 rfl ?_
          refine n_getf (ji := 9) (t := 0) dX12_takesCube_125 zf_X12_122 k_113 rfl (by decide) rfl ?_
          refine z_iload_n dX12_takesCube_128 rfl ?_
          refine z_if_eq (tgt := 136) dX12_takesCube_129 (by decide) (fun _ => ?_) (fun q29 => absurd q29 (by decide))
          refine z_iconst dX12_takesCube_136 ⟨by decide, by decide⟩ ?_
          refine z_iadd dX12_takesCube_137 (((h20.1 q22).2 q25).2.1 q27).1 ?_
          refine n_putI (ji := 9) dX12_takesCube_138 zf_X12_122 k_113 rfl (by decide) rfl ?_
          refine z_iload_n dX12_takesCube_141 rfl ?_
          exact z_zreturn dX12_takesCube_142 rfl rfl (by decide) ⟨_, rfl, (((h20.1 q22).2 q25).2.1 q27).2⟩
        · refine z_aload_n dX12_takesCube_69 rfl ?_
          refine n_getp (ji := 7) dX12_takesCube_70 zf_X12_29 k_113 rfl (by decide) rfl p_113_7 ?_
          refine z_aload_n dX12_takesCube_73 rfl ?_
          refine n_getf (ji := 9) (t := 0) dX12_takesCube_74 zf_X12_122 k_113 rfl (by decide) rfl ?_
          refine z_iconst dX12_takesCube_77 ⟨by decide, by decide⟩ ?_
          refine z_iadd dX12_takesCube_78 (((h20.1 q22).2 q25).2.2 q28).1 ?_
          refine n_bald dX12_takesCube_79 k_120 (((h20.1 q22).2 q25).2.2 q28).2.1 ?_
          refine z_bipush dX12_takesCube_80 (by decide) ?_
          refine z_icmp_ne (tgt := 121) dX12_takesCube_82 (by decide) (fun q30 => ?_) (fun q31 => ?_)
          · refine z_iconst dX12_takesCube_121 ⟨by decide, by decide⟩ ?_
            refine n_istore_n (lo' := [some (2, 113), some (0, v1), some (0, 0)]) dX12_takesCube_122 ⟨Nat.le_of_ble_eq_true rfl, Nat.le_of_ble_eq_true rfl⟩ rfl ?_
            refine z_aload_n dX12_takesCube_123 rfl ?_
            refine z_dup dX12_takesCube_124 rfl ?_
            refine n_getf (ji := 9) (t := 0) dX12_takesCube_125 zf_X12_122 k_113 rfl (by decide) rfl ?_
            refine z_iload_n dX12_takesCube_128 rfl ?_
            refine z_if_eq (tgt := 136) dX12_takesCube_129 (by decide) (fun _ => ?_) (fun q32 => absurd q32 (by decide))
            refine z_iconst dX12_takesCube_136 ⟨by decide, by decide⟩ ?_
            refine z_iadd dX12_takesCube_137 ((((h20.1 q22).2 q25).2.2 q28).2.2.1 q30).1 ?_
            refine n_putI (ji := 9) dX12_takesCube_138 zf_X12_122 k_113 rfl (by decide) rfl ?_
            refine z_iload_n dX12_takesCube_141 rfl ?_
            exact z_zreturn dX12_takesCube_142 rfl rfl (by decide) ⟨_, rfl, ((((h20.1 q22).2 q25).2.2 q28).2.2.1 q30).2⟩
          · refine z_aload_n dX12_takesCube_85 rfl ?_
            refine n_getp (ji := 7) dX12_takesCube_86 zf_X12_29 k_113 rfl (by decide) rfl p_113_7 ?_
            refine z_aload_n dX12_takesCube_89 rfl ?_
            refine n_getf (ji := 9) (t := 0) dX12_takesCube_90 zf_X12_122 k_113 rfl (by decide) rfl ?_
            refine z_iconst dX12_takesCube_93 ⟨by decide, by decide⟩ ?_
            refine z_iadd dX12_takesCube_94 ((((h20.1 q22).2 q25).2.2 q28).2.2.2 q31).1 ?_
            refine n_bald dX12_takesCube_95 k_120 ((((h20.1 q22).2 q25).2.2 q28).2.2.2 q31).2.1 ?_
            refine z_bipush dX12_takesCube_96 (by decide) ?_
            refine z_icmp_ne (tgt := 121) dX12_takesCube_98 (by decide) (fun q33 => ?_) (fun q34 => ?_)
            · refine z_iconst dX12_takesCube_121 ⟨by decide, by decide⟩ ?_
              refine n_istore_n (lo' := [some (2, 113), some (0, v1), some (0, 0)]) dX12_takesCube_122 ⟨Nat.le_of_ble_eq_true rfl, Nat.le_of_ble_eq_true rfl⟩ rfl ?_
              refine z_aload_n dX12_takesCube_123 rfl ?_
              refine z_dup dX12_takesCube_124 rfl ?_
              refine n_getf (ji := 9) (t := 0) dX12_takesCube_125 zf_X12_122 k_113 rfl (by decide) rfl ?_
              refine z_iload_n dX12_takesCube_128 rfl ?_
              refine z_if_eq (tgt := 136) dX12_takesCube_129 (by decide) (fun _ => ?_) (fun q35 => absurd q35 (by decide))
              refine z_iconst dX12_takesCube_136 ⟨by decide, by decide⟩ ?_
              refine z_iadd dX12_takesCube_137 (((((h20.1 q22).2 q25).2.2 q28).2.2.2 q31).2.2.1 q33).1 ?_
              refine n_putI (ji := 9) dX12_takesCube_138 zf_X12_122 k_113 rfl (by decide) rfl ?_
              refine z_iload_n dX12_takesCube_141 rfl ?_
              exact z_zreturn dX12_takesCube_142 rfl rfl (by decide) ⟨_, rfl, (((((h20.1 q22).2 q25).2.2 q28).2.2.2 q31).2.2.1 q33).2⟩
            · refine z_aload_n dX12_takesCube_101 rfl ?_
              refine n_getp (ji := 7) dX12_takesCube_102 zf_X12_29 k_113 rfl (by decide) rfl p_113_7 ?_
              refine z_aload_n dX12_takesCube_105 rfl ?_
              refine n_getf (ji := 9) (t := 0) dX12_takesCube_106 zf_X12_122 k_113 rfl (by decide) rfl ?_
              refine z_iconst dX12_takesCube_109 ⟨by decide, by decide⟩ ?_
              refine z_iadd dX12_takesCube_110 (((((h20.1 q22).2 q25).2.2 q28).2.2.2 q31).2.2.2 q34).1 ?_
              refine n_bald dX12_takesCube_111 k_120 (((((h20.1 q22).2 q25).2.2 q28).2.2.2 q31).2.2.2 q34).2.1 ?_
              refine z_bipush dX12_takesCube_112 (by decide) ?_
              refine z_icmp_ne (tgt := 121) dX12_takesCube_114 (by decide) (fun q36 => ?_) (fun q37 => ?_)
              · refine z_iconst dX12_takesCube_121 ⟨by decide, by decide⟩ ?_
                refine n_istore_n (lo' := [some (2, 113), some (0, v1), some (0, 0)]) dX12_takesCube_122 ⟨Nat.le_of_ble_eq_true rfl, Nat.le_of_ble_eq_true rfl⟩ rfl ?_
                refine z_aload_n dX12_takesCube_123 rfl ?_
                refine z_dup dX12_takesCube_124 rfl ?_
                refine n_getf (ji := 9) (t := 0) dX12_takesCube_125 zf_X12_122 k_113 rfl (by decide) rfl ?_
                refine z_iload_n dX12_takesCube_128 rfl ?_
                refine z_if_eq (tgt := 136) dX12_takesCube_129 (by decide) (fun _ => ?_) (fun q38 => absurd q38 (by decide))
                refine z_iconst dX12_takesCube_136 ⟨by decide, by decide⟩ ?_
                refine z_iadd dX12_takesCube_137 ((((((h20.1 q22).2 q25).2.2 q28).2.2.2 q31).2.2.2 q34).2.2.1 q36).1 ?_
                refine n_putI (ji := 9) dX12_takesCube_138 zf_X12_122 k_113 rfl (by decide) rfl ?_
                refine z_iload_n dX12_takesCube_141 rfl ?_
                exact z_zreturn dX12_takesCube_142 rfl rfl (by decide) ⟨_, rfl, ((((((h20.1 q22).2 q25).2.2 q28).2.2.2 q31).2.2.2 q34).2.2.1 q36).2⟩
              · refine z_iconst dX12_takesCube_117 ⟨by decide, by decide⟩ ?_
                refine z_goto (tgt := 122) dX12_takesCube_118 (by decide) ?_
                refine n_istore_n (lo' := [some (2, 113), some (0, v1), some (0, 1)]) dX12_takesCube_122 ⟨Nat.le_of_ble_eq_true rfl, Nat.le_of_ble_eq_true rfl⟩ rfl ?_
                refine z_aload_n dX12_takesCube_123 rfl ?_
                refine z_dup dX12_takesCube_124 rfl ?_
                refine n_getf (ji := 9) (t := 0) dX12_takesCube_125 zf_X12_122 k_113 rfl (by decide) rfl ?_
                refine z_iload_n dX12_takesCube_128 rfl ?_
                refine z_if_eq (tgt := 136) dX12_takesCube_129 (by decide) (fun q39 => absurd q39 (by decide)) (fun _ => ?_)
                refine z_iload_n dX12_takesCube_132 rfl ?_
                refine z_goto (tgt := 137) dX12_takesCube_133 (by decide) ?_
                refine z_iadd dX12_takesCube_137 ((((((h20.1 q22).2 q25).2.2 q28).2.2.2 q31).2.2.2 q34).2.2.2 q37).1 ?_
                refine n_putI (ji := 9) dX12_takesCube_138 zf_X12_122 k_113 rfl (by decide) rfl ?_
                refine z_iload_n dX12_takesCube_141 rfl ?_
                exact z_zreturn dX12_takesCube_142 rfl rfl (by decide) ⟨_, rfl, ((((((h20.1 q22).2 q25).2.2 q28).2.2.2 q31).2.2.2 q34).2.2.2 q37).2⟩
    · refine n_iinc (lo' := [some (2, 113), some (0, v1 + 1), none]) dX12_takesCube_44 rfl (by decide) (h20.2 q23).1 rfl ?_
      refine z_goto (tgt := 7) dX12_takesCube_47 (by decide) ?_
      refine z_drop [some (2, 113), some (0, v1 + 1), none] ⟨rfl, rfl, trivial⟩ ?_
      exact (h20.2 q23).2
set_option maxRecDepth 20000 in
theorem V_X12_number  {μ : z_Mem} {d : Nat} {K : Int → z_Mem → Prop} (h : z_ci m_X12_isRight [(2, 113)] μ d (fun x3 m1 => (x3 = 0 → z_cn m_X12_fails [(2, 113), (0, 1), (0, m1 113 9)] m1 d (fun m6 => K 0 m6)) ∧ (¬ x3 = 0 → z_ci m_X12_next [(2, 113)] m1 d (fun x10 m8 => z_ci m_X12_in [(1, x10), (1, 48), (1, 57)] m8 d (fun x13 m11 => (¬ x13 = 0 → z_ri m_X12_number 45 [some (2, 113), some (0, 0)] (z_st m11 113 11 (m11 113 9)) (d + 1) K) ∧ (x13 = 0 → z_cn m_X12_fails [(2, 113), (0, 1), (0, m11 113 9)] m11 d (fun m16 => K 0 m16))))))) : z_ci m_X12_number [(2, 113)] μ (d + 1) K := by
  show z_R m_X12_number 0 [some (2, 113), none] [] z_n μ (d + 1) _
  refine z_aload_n dX12_number_0 rfl ?_
  refine n_vI (as := []) (rest := []) dX12_number_1 zm_X12_isRight zs_X12_132 k_113 (by decide) rfl rfl (Nat.le_of_ble_eq_true rfl) (Nat.le_of_ble_eq_true rfl) h (fun x3 m1 h2 => ?_)
  refine z_if_eq (tgt := 24) dX12_number_4 (by decide) (fun q4 => ?_) (fun q5 => ?_)
  · refine z_aload_n dX12_number_24 rfl ?_
    refine z_iconst dX12_number_25 ⟨by decide, by decide⟩ ?_
    refine z_aload_n dX12_number_26 rfl ?_
    refine n_getf (ji := 9) (t := 0) dX12_number_27 zf_X12_122 k_113 rfl (by decide) rfl ?_
    refine n_vN (as := [(0, 1), (0, m1 113 9)]) (rest := []) dX12_number_30 zm_X12_fails zs_X12_151 k_113 (by decide) rfl rfl (Nat.le_of_ble_eq_true rfl) (Nat.le_of_ble_eq_true rfl) (h2.1 q4) (fun m6 h7 => ?_)
    refine z_iconst dX12_number_33 ⟨by decide, by decide⟩ ?_
    exact z_ireturn dX12_number_34 rfl rfl ⟨_, rfl, h7⟩
  · refine z_aload_n dX12_number_7 rfl ?_
    refine n_vI (as := []) (rest := []) dX12_number_8 zm_X12_next zs_X12_136 k_113 (by decide) rfl rfl (Nat.le_of_ble_eq_true rfl) (Nat.le_of_ble_eq_true rfl) (h2.2 q5) (fun x10 m8 h9 => ?_)
    refine z_i2l_ dX12_number_11 ?_
    refine z_ldc2 (n := 48) dX12_number_12 zc_1404 ⟨by decide, by decide⟩ ?_
    refine z_ldc2 (n := 57) dX12_number_15 zc_1405 ⟨by decide, by decide⟩ ?_
    refine n_sI (as := [(1, x10), (1, 48), (1, 57)]) (rest := []) dX12_number_18 zm_X12_in zs_X12_143 rfl rfl (Nat.le_of_ble_eq_true rfl) (Nat.le_of_ble_eq_true rfl) h9 (fun x13 m11 h12 => ?_)
    refine z_if_ne (tgt := 35) dX12_number_21 (by decide) (fun q14 => ?_) (fun q15 => ?_)
    · refine z_aload_n dX12_number_35 rfl ?_
      refine z_aload_n dX12_number_36 rfl ?_
      refine n_getf (ji := 9) (t := 0) dX12_number_37 zf_X12_122 k_113 rfl (by decide) rfl ?_
      refine n_putI (ji := 11) dX12_number_40 zf_X12_155 k_113 rfl (by decide) rfl ?_
      refine z_iconst dX12_number_43 ⟨by decide, by decide⟩ ?_
      refine n_istore_n (lo' := [some (2, 113), some (0, 0)]) dX12_number_44 ⟨Nat.le_of_ble_eq_true rfl, Nat.le_of_ble_eq_true rfl⟩ rfl ?_
      refine z_drop [some (2, 113), some (0, 0)] ⟨rfl, rfl, trivial⟩ ?_
      exact (h12.1 q14)
    · refine z_aload_n dX12_number_24 rfl ?_
      refine z_iconst dX12_number_25 ⟨by decide, by decide⟩ ?_
      refine z_aload_n dX12_number_26 rfl ?_
      refine n_getf (ji := 9) (t := 0) dX12_number_27 zf_X12_122 k_113 rfl (by decide) rfl ?_
      refine n_vN (as := [(0, 1), (0, m11 113 9)]) (rest := []) dX12_number_30 zm_X12_fails zs_X12_151 k_113 (by decide) rfl rfl (Nat.le_of_ble_eq_true rfl) (Nat.le_of_ble_eq_true rfl) (h12.2 q15) (fun m16 h17 => ?_)
      refine z_iconst dX12_number_33 ⟨by decide, by decide⟩ ?_
      exact z_ireturn dX12_number_34 rfl rfl ⟨_, rfl, h17⟩
set_option maxRecDepth 20000 in
theorem V_X12_number_45 {v1 : Int}  {μ : z_Mem} {d : Nat} {K : Int → z_Mem → Prop} (h : z_ci m_X12_sign [(2, 113)] μ d (fun x3 m1 => z_ci m_X12_in [(1, x3), (1, 48), (1, 57)] m1 d (fun x6 m4 => (x6 = 0 → (v1 ≤ 6 → K v1 m4) ∧ (6 < v1 → z_cn m_X12_fails [(2, 113), (0, 2), (0, m4 113 11)] m4 d (fun m11 => K v1 m11))) ∧ (¬ x6 = 0 → z_I (10 * v1) ∧ (z_ci m_X12_sign [(2, 113)] m4 d (fun x15 m13 => z_I ((10 * v1) + x15) ∧ (z_I (((10 * v1) + x15) - 48) ∧ (z_I ((m13 113 9) + 1) ∧ (z_ri m_X12_number 45 [some (2, 113), some (0, min 1000 (((10 * v1) + x15) - 48))] (z_st m13 113 9 ((m13 113 9) + 1)) (d + 1) K))))))))) : z_ri m_X12_number 45 [some (2, 113), some (0, v1)] μ (d + 1) K := by
  show z_R m_X12_number 45 [some (2, 113), some (0, v1)] [] z_n μ (d + 1) _
  refine z_aload_n dX12_number_45 rfl ?_
  refine n_vI (as := []) (rest := []) dX12_number_46 zm_X12_sign zs_X12_125 k_113 (by decide) rfl rfl (Nat.le_of_ble_eq_true rfl) (Nat.le_of_ble_eq_true rfl) h (fun x3 m1 h2 => ?_)
  refine z_i2l_ dX12_number_49 ?_
  refine z_ldc2 (n := 48) dX12_number_50 zc_1404 ⟨by decide, by decide⟩ ?_
  refine z_ldc2 (n := 57) dX12_number_53 zc_1405 ⟨by decide, by decide⟩ ?_
  refine n_sI (as := [(1, x3), (1, 48), (1, 57)]) (rest := []) dX12_number_56 zm_X12_in zs_X12_143 rfl rfl (Nat.le_of_ble_eq_true rfl) (Nat.le_of_ble_eq_true rfl) h2 (fun x6 m4 h5 => ?_)
  refine z_if_eq (tgt := 94) dX12_number_59 (by decide) (fun q7 => ?_) (fun q8 => ?_)
  · refine z_iload_n dX12_number_94 rfl ?_
    refine z_bipush dX12_number_95 (by decide) ?_
    refine z_icmp_le (tgt := 109) dX12_number_97 (by decide) (fun q9 => ?_) (fun q10 => ?_)
    · refine z_iload_n dX12_number_109 rfl ?_
      exact z_ireturn dX12_number_110 rfl rfl ⟨_, rfl, ((h5.1 q7).1 q9)⟩
    · refine z_aload_n dX12_number_100 rfl ?_
      refine z_iconst dX12_number_101 ⟨by decide, by decide⟩ ?_
      refine z_aload_n dX12_number_102 rfl ?_
      refine n_getf (ji := 11) (t := 0) dX12_number_103 zf_X12_155 k_113 rfl (by decide) rfl ?_
      refine n_vN (as := [(0, 2), (0, m4 113 11)]) (rest := []) dX12_number_106 zm_X12_fails zs_X12_151 k_113 (by decide) rfl rfl (Nat.le_of_ble_eq_true rfl) (Nat.le_of_ble_eq_true rfl) ((h5.1 q7).2 q10) (fun m11 h12 => ?_)
      refine z_iload_n dX12_number_109 rfl ?_
      exact z_ireturn dX12_number_110 rfl rfl ⟨_, rfl, h12⟩
  · refine z_sipush dX12_number_62 (by decide) ?_
    refine z_bipush dX12_number_65 (by decide) ?_
    refine z_iload_n dX12_number_67 rfl ?_
    refine z_imul dX12_number_68 (h5.2 q8).1 ?_
    refine z_aload_n dX12_number_69 rfl ?_
    refine n_vI (as := []) (rest := [(0, 10 * v1), (0, 1000)]) dX12_number_70 zm_X12_sign zs_X12_125 k_113 (by decide) rfl rfl (Nat.le_of_ble_eq_true rfl) (Nat.le_of_ble_eq_true rfl) (h5.2 q8).2 (fun x15 m13 h14 => ?_)
    refine z_iadd dX12_number_73 h14.1 ?_
    refine z_bipush dX12_number_74 (by decide) ?_
    refine z_isub dX12_number_76 h14.2.1 ?_
    refine z_mmin dX12_number_77 zq_1406 zq_592 zq_133 zq_593 (Nat.le_of_ble_eq_true rfl) ?_
    refine n_istore_n (lo' := [some (2, 113), some (0, min 1000 (((10 * v1) + x15) - 48))]) dX12_number_80 ⟨Nat.le_of_ble_eq_true rfl, Nat.le_of_ble_eq_true rfl⟩ rfl ?_
    refine z_aload_n dX12_number_81 rfl ?_
    refine z_dup dX12_number_82 rfl ?_
    refine n_getf (ji := 9) (t := 0) dX12_number_83 zf_X12_122 k_113 rfl (by decide) rfl ?_
    refine z_iconst dX12_number_86 ⟨by decide, by decide⟩ ?_
    refine z_iadd dX12_number_87 h14.2.2.1 ?_
    refine n_putI (ji := 9) dX12_number_88 zf_X12_122 k_113 rfl (by decide) rfl ?_
    refine z_goto (tgt := 45) dX12_number_91 (by decide) ?_
    refine z_drop [some (2, 113), some (0, min 1000 (((10 * v1) + x15) - 48))] ⟨rfl, rfl, trivial⟩ ?_
    exact h14.2.2.2
set_option maxRecDepth 20000 in
theorem V_X12_canStand {a : Int}  {μ : z_Mem} {d : Nat} {K : Int → z_Mem → Prop} (h : (¬ a = 0 → z_ri m_X12_canStand 12 [some (2, 113), some (0, a), some (0, 0), some (0, 0), none, none] μ (d + 1) K) ∧ (a = 0 → z_ri m_X12_canStand 12 [some (2, 113), some (0, a), some (0, 1), some (0, 0), none, none] μ (d + 1) K)) : z_ci m_X12_canStand [(2, 113), (0, a)] μ (d + 1) K := by
  show z_R m_X12_canStand 0 [some (2, 113), some (0, a), none, none, none, none] [] z_n μ (d + 1) _
  refine z_iload_n dX12_canStand_0 rfl ?_
  refine z_if_ne (tgt := 8) dX12_canStand_1 (by decide) (fun q1 => ?_) (fun q2 => ?_)
  · refine z_iconst dX12_canStand_8 ⟨by decide, by decide⟩ ?_
    refine n_istore_n (lo' := [some (2, 113), some (0, a), some (0, 0), none, none, none]) dX12_canStand_9 ⟨Nat.le_of_ble_eq_true rfl, Nat.le_of_ble_eq_true rfl⟩ rfl ?_
    refine z_iconst dX12_canStand_10 ⟨by decide, by decide⟩ ?_
    refine n_istore_n (lo' := [some (2, 113), some (0, a), some (0, 0), some (0, 0), none, none]) dX12_canStand_11 ⟨Nat.le_of_ble_eq_true rfl, Nat.le_of_ble_eq_true rfl⟩ rfl ?_
    refine z_drop [some (2, 113), some (0, a), some (0, 0), some (0, 0), none, none] ⟨rfl, rfl, rfl, rfl, trivial⟩ ?_
    exact (h.1 q1)
  · refine z_iconst dX12_canStand_4 ⟨by decide, by decide⟩ ?_
    refine z_goto (tgt := 9) dX12_canStand_5 (by decide) ?_
    refine n_istore_n (lo' := [some (2, 113), some (0, a), some (0, 1), none, none, none]) dX12_canStand_9 ⟨Nat.le_of_ble_eq_true rfl, Nat.le_of_ble_eq_true rfl⟩ rfl ?_
    refine z_iconst dX12_canStand_10 ⟨by decide, by decide⟩ ?_
    refine n_istore_n (lo' := [some (2, 113), some (0, a), some (0, 1), some (0, 0), none, none]) dX12_canStand_11 ⟨Nat.le_of_ble_eq_true rfl, Nat.le_of_ble_eq_true rfl⟩ rfl ?_
    refine z_drop [some (2, 113), some (0, a), some (0, 1), some (0, 0), none, none] ⟨rfl, rfl, rfl, rfl, trivial⟩ ?_
    exact (h.2 q2)
set_option maxRecDepth 20000 in
theorem V_X12_canStand_12 {v1 v2 v3 : Int}  {μ : z_Mem} {d : Nat} {K : Int → z_Mem → Prop} (h : (v1 ≤ v3 → (v2 = 0 ∨ v2 = 1) ∧ (K v2 μ)) ∧ (v3 < v1 → z_ri m_X12_canStand 23 [some (2, 113), some (0, v1), some (0, v2), some (0, v3), some (0, 0), some (0, 0)] μ (d + 1) K)) : z_ri m_X12_canStand 12 [some (2, 113), some (0, v1), some (0, v2), some (0, v3), none, none] μ (d + 1) K := by
  show z_R m_X12_canStand 12 [some (2, 113), some (0, v1), some (0, v2), some (0, v3), none, none] [] z_n μ (d + 1) _
  refine z_iload_n dX12_canStand_12 rfl ?_
  refine z_iload_n dX12_canStand_13 rfl ?_
  refine z_icmp_ge (tgt := 99) dX12_canStand_14 (by decide) (fun q1 => ?_) (fun q2 => ?_)
  · refine z_iload_n dX12_canStand_99 rfl ?_
    exact z_zreturn dX12_canStand_100 rfl rfl (h.1 q1).1 ⟨_, rfl, (h.1 q1).2⟩
  · refine z_iconst dX12_canStand_17 ⟨by decide, by decide⟩ ?_
    refine n_istore (lo' := [some (2, 113), some (0, v1), some (0, v2), some (0, v3), some (0, 0), none]) dX12_canStand_18 ⟨Nat.le_of_ble_eq_true rfl, Nat.le_of_ble_eq_true rfl⟩ rfl ?_
    refine z_iconst dX12_canStand_20 ⟨by decide, by decide⟩ ?_
    refine n_istore (lo' := [some (2, 113), some (0, v1), some (0, v2), some (0, v3), some (0, 0), some (0, 0)]) dX12_canStand_21 ⟨Nat.le_of_ble_eq_true rfl, Nat.le_of_ble_eq_true rfl⟩ rfl ?_
    refine z_drop [some (2, 113), some (0, v1), some (0, v2), some (0, v3), some (0, 0), some (0, 0)] ⟨rfl, rfl, rfl, rfl, rfl, rfl, trivial⟩ ?_
    exact (h.2 q2)
set_option maxRecDepth 20000 in
theorem V_X12_canStand_23 {v1 v2 v3 v4 v5 : Int}  {μ : z_Mem} {d : Nat} {K : Int → z_Mem → Prop} (h : (3 ≤ v5 → (¬ v4 = 0 → (¬ v2 = 0 → z_I (v3 + 1) ∧ (z_ri m_X12_canStand 12 [some (2, 113), some (0, v1), some (0, 1), some (0, v3 + 1), none, none] μ (d + 1) K)) ∧ (v2 = 0 → (¬ v4 = 1 → z_I (v3 + 1) ∧ (z_ri m_X12_canStand 12 [some (2, 113), some (0, v1), some (0, 0), some (0, v3 + 1), none, none] μ (d + 1) K)) ∧ (v4 = 1 → z_I (v3 + 1) ∧ (z_ri m_X12_canStand 12 [some (2, 113), some (0, v1), some (0, 1), some (0, v3 + 1), none, none] μ (d + 1) K)))) ∧ (v4 = 0 → K 0 μ)) ∧ (v5 < 3 → z_I (3 * v1) ∧ (z_I (1 + (3 * v1)) ∧ (z_I ((1 + (3 * v1)) + v5) ∧ (((0 : Int) ≤ (1 + (3 * v1)) + v5 ∧ (1 + (3 * v1)) + v5 < 143) ∧ (z_I (3 * v3) ∧ (z_I (1 + (3 * v3)) ∧ (z_I ((1 + (3 * v3)) + v5) ∧ (((0 : Int) ≤ (1 + (3 * v3)) + v5 ∧ (1 + (3 * v3)) + v5 < 143) ∧ (z_I ((μ 115 ((1 + (3 * v1)) + v5)) - (μ 115 ((1 + (3 * v3)) + v5))) ∧ (z_I (max ((μ 115 ((1 + (3 * v1)) + v5)) - (μ 115 ((1 + (3 * v3)) + v5))) (-((μ 115 ((1 + (3 * v1)) + v5)) - (μ 115 ((1 + (3 * v3)) + v5))))) ∧ (z_I (v4 + (max ((μ 115 ((1 + (3 * v1)) + v5)) - (μ 115 ((1 + (3 * v3)) + v5))) (-((μ 115 ((1 + (3 * v1)) + v5)) - (μ 115 ((1 + (3 * v3)) + v5)))))) ∧ (z_I (v5 + 1) ∧ (z_ri m_X12_canStand 23 [some (2, 113), some (0, v1), some (0, v2), some (0, v3), some (0, v4 + (max ((μ 115 ((1 + (3 * v1)) + v5)) - (μ 115 ((1 + (3 * v3)) + v5))) (-((μ 115 ((1 + (3 * v1)) + v5)) - (μ 115 ((1 + (3 * v3)) + v5)))))), some (0, v5 + 1)] μ (d + 1) K)))))))))))))) : z_ri m_X12_canStand 23 [some (2, 113), some (0, v1), some (0, v2), some (0, v3), some (0, v4), some (0, v5)] μ (d + 1) K := by
  show z_R m_X12_canStand 23 [some (2, 113), some (0, v1), some (0, v2), some (0, v3), some (0, v4), some (0, v5)] [] z_n μ (d + 1) _
  refine z_iload dX12_canStand_23 rfl ?_
  refine z_iconst dX12_canStand_25 ⟨by decide, by decide⟩ ?_
  refine z_icmp_ge (tgt := 70) dX12_canStand_26 (by decide) (fun q1 => ?_) (fun q2 => ?_)
  · refine z_iload dX12_canStand_70 rfl ?_
    refine z_if_ne (tgt := 77) dX12_canStand_72 (by decide) (fun q3 => ?_) (fun q4 => ?_)
    · refine z_iload_n dX12_canStand_77 rfl ?_
      refine z_if_ne (tgt := 87) dX12_canStand_78 (by decide) (fun q5 => ?_) (fun q6 => ?_)
      · refine z_iconst dX12_canStand_87 ⟨by decide, by decide⟩ ?_
        refine z_goto (tgt := 92) dX12_canStand_88 (by decide) ?_
        refine n_istore_n (lo' := [some (2, 113), some (0, v1), some (0, 1), some (0, v3), some (0, v4), some (0, v5)]) dX12_canStand_92 ⟨Nat.le_of_ble_eq_true rfl, Nat.le_of_ble_eq_true rfl⟩ rfl ?_
        refine n_iinc (lo' := [some (2, 113), some (0, v1), some (0, 1), some (0, v3 + 1), some (0, v4), some (0, v5)]) dX12_canStand_93 rfl (by decide) (((h.1 q1).1 q3).1 q5).1 rfl ?_
        refine z_goto (tgt := 12) dX12_canStand_96 (by decide) ?_
        refine z_drop [some (2, 113), some (0, v1), some (0, 1), some (0, v3 + 1), none, none] ⟨rfl, rfl, rfl, rfl, trivial⟩ ?_
        exact (((h.1 q1).1 q3).1 q5).2
      · refine z_iload dX12_canStand_81 rfl ?_
        refine z_iconst dX12_canStand_83 ⟨by decide, by decide⟩ ?_
        refine z_icmp_ne (tgt := 91) dX12_canStand_84 (by decide) (fun q7 => ?_) (fun q8 => ?_)
        · refine z_iconst dX12_canStand_91 ⟨by decide, by decide⟩ ?_
          refine n_istore_n (lo' := [some (2, 113), some (0, v1), some (0, 0), some (0, v3), some (0, v4), some (0, v5)]) dX12_canStand_92 ⟨Nat.le_of_ble_eq_true rfl, Nat.le_of_ble_eq_true rfl⟩ rfl ?_
          refine n_iinc (lo' := [some (2, 113), some (0, v1), some (0, 0), some (0, v3 + 1), some (0, v4), some (0, v5)]) dX12_canStand_93 rfl (by decide) ((((h.1 q1).1 q3).2 q6).1 q7).1 rfl ?_
          refine z_goto (tgt := 12) dX12_canStand_96 (by decide) ?_
          refine z_drop [some (2, 113), some (0, v1), some (0, 0), some (0, v3 + 1), none, none] ⟨rfl, rfl, rfl, rfl, trivial⟩ ?_
          exact ((((h.1 q1).1 q3).2 q6).1 q7).2
        · refine z_iconst dX12_canStand_87 ⟨by decide, by decide⟩ ?_
          refine z_goto (tgt := 92) dX12_canStand_88 (by decide) ?_
          refine n_istore_n (lo' := [some (2, 113), some (0, v1), some (0, 1), some (0, v3), some (0, v4), some (0, v5)]) dX12_canStand_92 ⟨Nat.le_of_ble_eq_true rfl, Nat.le_of_ble_eq_true rfl⟩ rfl ?_
          refine n_iinc (lo' := [some (2, 113), some (0, v1), some (0, 1), some (0, v3 + 1), some (0, v4), some (0, v5)]) dX12_canStand_93 rfl (by decide) ((((h.1 q1).1 q3).2 q6).2 q8).1 rfl ?_
          refine z_goto (tgt := 12) dX12_canStand_96 (by decide) ?_
          refine z_drop [some (2, 113), some (0, v1), some (0, 1), some (0, v3 + 1), none, none] ⟨rfl, rfl, rfl, rfl, trivial⟩ ?_
          exact ((((h.1 q1).1 q3).2 q6).2 q8).2
    · refine z_iconst dX12_canStand_75 ⟨by decide, by decide⟩ ?_
      exact z_zreturn dX12_canStand_76 rfl rfl (by decide) ⟨_, rfl, ((h.1 q1).2 q4)⟩
  · refine z_iload dX12_canStand_29 rfl ?_
    refine z_aload_n dX12_canStand_31 rfl ?_
    refine n_getp (ji := 1) dX12_canStand_32 zf_X12_13 k_113 rfl (by decide) rfl p_113_1 ?_
    refine z_iconst dX12_canStand_35 ⟨by decide, by decide⟩ ?_
    refine z_iconst dX12_canStand_36 ⟨by decide, by decide⟩ ?_
    refine z_iload_n dX12_canStand_37 rfl ?_
    refine z_imul dX12_canStand_38 (h.2 q2).1 ?_
    refine z_iadd dX12_canStand_39 (h.2 q2).2.1 ?_
    refine z_iload dX12_canStand_40 rfl ?_
    refine z_iadd dX12_canStand_42 (h.2 q2).2.2.1 ?_
    refine n_iald dX12_canStand_43 k_115 (h.2 q2).2.2.2.1 ?_
    refine z_aload_n dX12_canStand_44 rfl ?_
    refine n_getp (ji := 1) dX12_canStand_45 zf_X12_13 k_113 rfl (by decide) rfl p_113_1 ?_
    refine z_iconst dX12_canStand_48 ⟨by decide, by decide⟩ ?_
    refine z_iconst dX12_canStand_49 ⟨by decide, by decide⟩ ?_
    refine z_iload_n dX12_canStand_50 rfl ?_
    refine z_imul dX12_canStand_51 (h.2 q2).2.2.2.2.1 ?_
    refine z_iadd dX12_canStand_52 (h.2 q2).2.2.2.2.2.1 ?_
    refine z_iload dX12_canStand_53 rfl ?_
    refine z_iadd dX12_canStand_55 (h.2 q2).2.2.2.2.2.2.1 ?_
    refine n_iald dX12_canStand_56 k_115 (h.2 q2).2.2.2.2.2.2.2.1 ?_
    refine z_isub dX12_canStand_57 (h.2 q2).2.2.2.2.2.2.2.2.1 ?_
    refine z_mabs dX12_canStand_58 zq_1411 zq_623 zq_133 zq_624 (Nat.le_of_ble_eq_true rfl) (h.2 q2).2.2.2.2.2.2.2.2.2.1 ?_
    refine z_iadd dX12_canStand_61 (h.2 q2).2.2.2.2.2.2.2.2.2.2.1 ?_
    refine n_istore (lo' := [some (2, 113), some (0, v1), some (0, v2), some (0, v3), some (0, v4 + (max ((μ 115 ((1 + (3 * v1)) + v5)) - (μ 115 ((1 + (3 * v3)) + v5))) (-((μ 115 ((1 + (3 * v1)) + v5)) - (μ 115 ((1 + (3 * v3)) + v5)))))), some (0, v5)]) dX12_canStand_62 ⟨Nat.le_of_ble_eq_true rfl, Nat.le_of_ble_eq_true rfl⟩ rfl ?_
    refine n_iinc (lo' := [some (2, 113), some (0, v1), some (0, v2), some (0, v3), some (0, v4 + (max ((μ 115 ((1 + (3 * v1)) + v5)) - (μ 115 ((1 + (3 * v3)) + v5))) (-((μ 115 ((1 + (3 * v1)) + v5)) - (μ 115 ((1 + (3 * v3)) + v5)))))), some (0, v5 + 1)]) dX12_canStand_64 rfl (by decide) (h.2 q2).2.2.2.2.2.2.2.2.2.2.2.1 rfl ?_
    refine z_goto (tgt := 23) dX12_canStand_67 (by decide) ?_
    refine z_drop [some (2, 113), some (0, v1), some (0, v2), some (0, v3), some (0, v4 + (max ((μ 115 ((1 + (3 * v1)) + v5)) - (μ 115 ((1 + (3 * v3)) + v5))) (-((μ 115 ((1 + (3 * v1)) + v5)) - (μ 115 ((1 + (3 * v3)) + v5)))))), some (0, v5 + 1)] ⟨rfl, rfl, rfl, rfl, rfl, rfl, trivial⟩ ?_
    exact (h.2 q2).2.2.2.2.2.2.2.2.2.2.2.2
set_option maxRecDepth 20000 in
theorem V_X12_readsPart  {μ : z_Mem} {d : Nat} {K : z_Mem → Prop} (h : z_ci m_X12_next [(2, 113)] μ d (fun x3 m1 => z_ci m_X12_takesCube [(2, 113)] m1 d (fun x6 m4 => (¬ x6 = 0 → (¬ m4 115 0 = 7 → z_rn m_X12_readsPart 52 [some (2, 113), none, some (0, m4 115 0), some (0, 0)] m4 (d + 1) K) ∧ (m4 115 0 = 7 → z_cn m_X12_fails [(2, 113), (0, 3), (0, m1 113 9)] m4 d (fun m11 => z_rn m_X12_readsPart 52 [some (2, 113), none, some (0, m11 115 0), some (0, 0)] m11 (d + 1) K))) ∧ (x6 = 0 → z_cn m_X12_fails [(2, 113), (0, 1), (0, m1 113 9)] m4 d (fun m13 => z_rn m_X12_readsPart 52 [some (2, 113), none, some (0, m13 115 0), some (0, 0)] m13 (d + 1) K))))) : z_cn m_X12_readsPart [(2, 113)] μ (d + 1) K := by
  show z_R m_X12_readsPart 0 [some (2, 113), none, none, none] [] z_n μ (d + 1) _
  refine z_aload_n dX12_readsPart_0 rfl ?_
  refine n_vI (as := []) (rest := []) dX12_readsPart_1 zm_X12_next zs_X12_136 k_113 (by decide) rfl rfl (Nat.le_of_ble_eq_true rfl) (Nat.le_of_ble_eq_true rfl) h (fun x3 m1 h2 => ?_)
  refine z_pop dX12_readsPart_4 rfl ?_
  refine z_aload_n dX12_readsPart_5 rfl ?_
  refine n_getf (ji := 9) (t := 0) dX12_readsPart_6 zf_X12_122 k_113 rfl (by decide) rfl ?_
  refine n_istore_n (lo' := [some (2, 113), some (0, m1 113 9), none, none]) dX12_readsPart_9 ⟨Nat.le_of_ble_eq_true rfl, Nat.le_of_ble_eq_true rfl⟩ rfl ?_
  refine z_aload_n dX12_readsPart_10 rfl ?_
  refine n_vI (as := []) (rest := []) dX12_readsPart_11 zm_X12_takesCube zs_X12_168 k_113 (by decide) rfl rfl (Nat.le_of_ble_eq_true rfl) (Nat.le_of_ble_eq_true rfl) h2 (fun x6 m4 h5 => ?_)
  refine z_if_ne (tgt := 26) dX12_readsPart_14 (by decide) (fun q7 => ?_) (fun q8 => ?_)
  · refine z_aload_n dX12_readsPart_26 rfl ?_
    refine n_getp (ji := 1) dX12_readsPart_27 zf_X12_13 k_113 rfl (by decide) rfl p_113_1 ?_
    refine z_iconst dX12_readsPart_30 ⟨by decide, by decide⟩ ?_
    refine n_iald dX12_readsPart_31 k_115 (by decide) ?_
    refine z_bipush dX12_readsPart_32 (by decide) ?_
    refine z_icmp_ne (tgt := 43) dX12_readsPart_34 (by decide) (fun q9 => ?_) (fun q10 => ?_)
    · refine z_aload_n dX12_readsPart_43 rfl ?_
      refine n_getp (ji := 1) dX12_readsPart_44 zf_X12_13 k_113 rfl (by decide) rfl p_113_1 ?_
      refine z_iconst dX12_readsPart_47 ⟨by decide, by decide⟩ ?_
      refine n_iald dX12_readsPart_48 k_115 (by decide) ?_
      refine n_istore_n (lo' := [some (2, 113), some (0, m1 113 9), some (0, m4 115 0), none]) dX12_readsPart_49 ⟨Nat.le_of_ble_eq_true rfl, Nat.le_of_ble_eq_true rfl⟩ rfl ?_
      refine z_iconst dX12_readsPart_50 ⟨by decide, by decide⟩ ?_
      refine n_istore_n (lo' := [some (2, 113), some (0, m1 113 9), some (0, m4 115 0), some (0, 0)]) dX12_readsPart_51 ⟨Nat.le_of_ble_eq_true rfl, Nat.le_of_ble_eq_true rfl⟩ rfl ?_
      refine z_drop [some (2, 113), none, some (0, m4 115 0), some (0, 0)] ⟨rfl, rfl, rfl, trivial⟩ ?_
      exact ((h5.1 q7).1 q9)
    · refine z_aload_n dX12_readsPart_37 rfl ?_
      refine z_iconst dX12_readsPart_38 ⟨by decide, by decide⟩ ?_
      refine z_iload_n dX12_readsPart_39 rfl ?_
      refine n_vN (as := [(0, 3), (0, m1 113 9)]) (rest := []) dX12_readsPart_40 zm_X12_fails zs_X12_151 k_113 (by decide) rfl rfl (Nat.le_of_ble_eq_true rfl) (Nat.le_of_ble_eq_true rfl) ((h5.1 q7).2 q10) (fun m11 h12 => ?_)
      refine z_aload_n dX12_readsPart_43 rfl ?_
      refine n_getp (ji := 1) dX12_readsPart_44 zf_X12_13 k_113 rfl (by decide) rfl p_113_1 ?_
      refine z_iconst dX12_readsPart_47 ⟨by decide, by decide⟩ ?_
      refine n_iald dX12_readsPart_48 k_115 (by decide) ?_
      refine n_istore_n (lo' := [some (2, 113), some (0, m1 113 9), some (0, m11 115 0), none]) dX12_readsPart_49 ⟨Nat.le_of_ble_eq_true rfl, Nat.le_of_ble_eq_true rfl⟩ rfl ?_
      refine z_iconst dX12_readsPart_50 ⟨by decide, by decide⟩ ?_
      refine n_istore_n (lo' := [some (2, 113), some (0, m1 113 9), some (0, m11 115 0), some (0, 0)]) dX12_readsPart_51 ⟨Nat.le_of_ble_eq_true rfl, Nat.le_of_ble_eq_true rfl⟩ rfl ?_
      refine z_drop [some (2, 113), none, some (0, m11 115 0), some (0, 0)] ⟨rfl, rfl, rfl, trivial⟩ ?_
      exact h12
  · refine z_aload_n dX12_readsPart_17 rfl ?_
    refine z_iconst dX12_readsPart_18 ⟨by decide, by decide⟩ ?_
    refine z_iload_n dX12_readsPart_19 rfl ?_
    refine n_vN (as := [(0, 1), (0, m1 113 9)]) (rest := []) dX12_readsPart_20 zm_X12_fails zs_X12_151 k_113 (by decide) rfl rfl (Nat.le_of_ble_eq_true rfl) (Nat.le_of_ble_eq_true rfl) (h5.2 q8) (fun m13 h14 => ?_)
    refine z_goto (tgt := 43) dX12_readsPart_23 (by decide) ?_
    refine z_aload_n dX12_readsPart_43 rfl ?_
    refine n_getp (ji := 1) dX12_readsPart_44 zf_X12_13 k_113 rfl (by decide) rfl p_113_1 ?_
    refine z_iconst dX12_readsPart_47 ⟨by decide, by decide⟩ ?_
    refine n_iald dX12_readsPart_48 k_115 (by decide) ?_
    refine n_istore_n (lo' := [some (2, 113), some (0, m1 113 9), some (0, m13 115 0), none]) dX12_readsPart_49 ⟨Nat.le_of_ble_eq_true rfl, Nat.le_of_ble_eq_true rfl⟩ rfl ?_
    refine z_iconst dX12_readsPart_50 ⟨by decide, by decide⟩ ?_
    refine n_istore_n (lo' := [some (2, 113), some (0, m1 113 9), some (0, m13 115 0), some (0, 0)]) dX12_readsPart_51 ⟨Nat.le_of_ble_eq_true rfl, Nat.le_of_ble_eq_true rfl⟩ rfl ?_
    refine z_drop [some (2, 113), none, some (0, m13 115 0), some (0, 0)] ⟨rfl, rfl, rfl, trivial⟩ ?_
    exact h14
set_option maxRecDepth 20000 in
theorem V_X12_readsPart_52 {v2 v3 : Int}  {μ : z_Mem} {d : Nat} {K : z_Mem → Prop} (h : (3 ≤ v3 → z_ci m_X12_isRight [(2, 113)] μ d (fun x5 m3 => (x5 = 0 → z_I ((m3 115 0) + 1) ∧ (K (z_st m3 115 0 ((m3 115 0) + 1)))) ∧ (¬ x5 = 0 → z_ci m_X12_canStand [(2, 113), (0, v2)] m3 d (fun x10 m8 => (¬ x10 = 0 → z_I ((m8 115 0) + 1) ∧ (K (z_st m8 115 0 ((m8 115 0) + 1)))) ∧ (x10 = 0 → z_cn m_X12_fails [(2, 113), (0, 4), (0, m8 113 11)] m8 d (fun m13 => z_I ((m13 115 0) + 1) ∧ (K (z_st m13 115 0 ((m13 115 0) + 1))))))))) ∧ (v3 < 3 → z_ci m_X12_isRight [(2, 113)] μ d (fun x17 m15 => (x17 = 0 → z_ci m_X12_isRight [(2, 113)] m15 d (fun x22 m20 => (x22 = 0 → z_I ((m20 115 0) + 1) ∧ (K (z_st m20 115 0 ((m20 115 0) + 1)))) ∧ (¬ x22 = 0 → z_ci m_X12_canStand [(2, 113), (0, v2)] m20 d (fun x27 m25 => (¬ x27 = 0 → z_I ((m25 115 0) + 1) ∧ (K (z_st m25 115 0 ((m25 115 0) + 1)))) ∧ (x27 = 0 → z_cn m_X12_fails [(2, 113), (0, 4), (0, m25 113 11)] m25 d (fun m30 => z_I ((m30 115 0) + 1) ∧ (K (z_st m30 115 0 ((m30 115 0) + 1))))))))) ∧ (¬ x17 = 0 → z_I (3 * v2) ∧ (z_I (1 + (3 * v2)) ∧ (z_I ((1 + (3 * v2)) + v3) ∧ (z_ci m_X12_number [(2, 113)] m15 d (fun x34 m32 => ((0 : Int) ≤ (1 + (3 * v2)) + v3 ∧ (1 + (3 * v2)) + v3 < 143) ∧ (z_I (v3 + 1) ∧ (z_rn m_X12_readsPart 52 [some (2, 113), none, some (0, v2), some (0, v3 + 1)] (z_st m32 115 ((1 + (3 * v2)) + v3) x34) (d + 1) K)))))))))) : z_rn m_X12_readsPart 52 [some (2, 113), none, some (0, v2), some (0, v3)] μ (d + 1) K := by
  show z_R m_X12_readsPart 52 [some (2, 113), none, some (0, v2), some (0, v3)] [] z_n μ (d + 1) _
  refine z_iload_n dX12_readsPart_52 rfl ?_
  refine z_iconst dX12_readsPart_53 ⟨by decide, by decide⟩ ?_
  refine z_icmp_ge (tgt := 86) dX12_readsPart_54 (by decide) (fun q1 => ?_) (fun q2 => ?_)
  · refine z_aload_n dX12_readsPart_86 rfl ?_
    refine n_vI (as := []) (rest := []) dX12_readsPart_87 zm_X12_isRight zs_X12_132 k_113 (by decide) rfl rfl (Nat.le_of_ble_eq_true rfl) (Nat.le_of_ble_eq_true rfl) (h.1 q1) (fun x5 m3 h4 => ?_)
    refine z_if_eq (tgt := 110) dX12_readsPart_90 (by decide) (fun q6 => ?_) (fun q7 => ?_)
    · refine z_aload_n dX12_readsPart_110 rfl ?_
      refine n_getp (ji := 1) dX12_readsPart_111 zf_X12_13 k_113 rfl (by decide) rfl p_113_1 ?_
      refine z_iconst dX12_readsPart_114 ⟨by decide, by decide⟩ ?_
      refine z_dup2 dX12_readsPart_115 rfl rfl ?_
      refine n_iald dX12_readsPart_116 k_115 (by decide) ?_
      refine z_iconst dX12_readsPart_117 ⟨by decide, by decide⟩ ?_
      refine z_iadd dX12_readsPart_118 (h4.1 q6).1 ?_
      refine n_iast dX12_readsPart_119 k_115 (by decide) ?_
      exact z_return dX12_readsPart_120 rfl rfl ⟨rfl, (h4.1 q6).2⟩
    · refine z_aload_n dX12_readsPart_93 rfl ?_
      refine z_iload_n dX12_readsPart_94 rfl ?_
      refine n_vI (as := [(0, v2)]) (rest := []) dX12_readsPart_95 zm_X12_canStand zs_X12_174 k_113 (by decide) rfl rfl (Nat.le_of_ble_eq_true rfl) (Nat.le_of_ble_eq_true rfl) (h4.2 q7) (fun x10 m8 h9 => ?_)
      refine z_if_ne (tgt := 110) dX12_readsPart_98 (by decide) (fun q11 => ?_) (fun q12 => ?_)
      · refine z_aload_n dX12_readsPart_110 rfl ?_
        refine n_getp (ji := 1) dX12_readsPart_111 zf_X12_13 k_113 rfl (by decide) rfl p_113_1 ?_
        refine z_iconst dX12_readsPart_114 ⟨by decide, by decide⟩ ?_
        refine z_dup2 dX12_readsPart_115 rfl rfl ?_
        refine n_iald dX12_readsPart_116 k_115 (by decide) ?_
        refine z_iconst dX12_readsPart_117 ⟨by decide, by decide⟩ ?_
        refine z_iadd dX12_readsPart_118 (h9.1 q11).1 ?_
        refine n_iast dX12_readsPart_119 k_115 (by decide) ?_
        exact z_return dX12_readsPart_120 rfl rfl ⟨rfl, (h9.1 q11).2⟩
      · refine z_aload_n dX12_readsPart_101 rfl ?_
        refine z_iconst dX12_readsPart_102 ⟨by decide, by decide⟩ ?_
        refine z_aload_n dX12_readsPart_103 rfl ?_
        refine n_getf (ji := 11) (t := 0) dX12_readsPart_104 zf_X12_155 k_113 rfl (by decide) rfl ?_
        refine n_vN (as := [(0, 4), (0, m8 113 11)]) (rest := []) dX12_readsPart_107 zm_X12_fails zs_X12_151 k_113 (by decide) rfl rfl (Nat.le_of_ble_eq_true rfl) (Nat.le_of_ble_eq_true rfl) (h9.2 q12) (fun m13 h14 => ?_)
        refine z_aload_n dX12_readsPart_110 rfl ?_
        refine n_getp (ji := 1) dX12_readsPart_111 zf_X12_13 k_113 rfl (by decide) rfl p_113_1 ?_
        refine z_iconst dX12_readsPart_114 ⟨by decide, by decide⟩ ?_
        refine z_dup2 dX12_readsPart_115 rfl rfl ?_
        refine n_iald dX12_readsPart_116 k_115 (by decide) ?_
        refine z_iconst dX12_readsPart_117 ⟨by decide, by decide⟩ ?_
        refine z_iadd dX12_readsPart_118 h14.1 ?_
        refine n_iast dX12_readsPart_119 k_115 (by decide) ?_
        exact z_return dX12_readsPart_120 rfl rfl ⟨rfl, h14.2⟩
  · refine z_aload_n dX12_readsPart_57 rfl ?_
    refine n_vI (as := []) (rest := []) dX12_readsPart_58 zm_X12_isRight zs_X12_132 k_113 (by decide) rfl rfl (Nat.le_of_ble_eq_true rfl) (Nat.le_of_ble_eq_true rfl) (h.2 q2) (fun x17 m15 h16 => ?_)
    refine z_if_eq (tgt := 86) dX12_readsPart_61 (by decide) (fun q18 => ?_) (fun q19 => ?_)
    · refine z_aload_n dX12_readsPart_86 rfl ?_
      refine n_vI (as := []) (rest := []) dX12_readsPart_87 zm_X12_isRight zs_X12_132 k_113 (by decide) rfl rfl (Nat.le_of_ble_eq_true rfl) (Nat.le_of_ble_eq_true rfl) (h16.1 q18) (fun x22 m20 h21 => ?_)
      refine z_if_eq (tgt := 110) dX12_readsPart_90 (by decide) (fun q23 => ?_) (fun q24 => ?_)
      · refine z_aload_n dX12_readsPart_110 rfl ?_
        refine n_getp (ji := 1) dX12_readsPart_111 zf_X12_13 k_113 rfl (by decide) rfl p_113_1 ?_
        refine z_iconst dX12_readsPart_114 ⟨by decide, by decide⟩ ?_
        refine z_dup2 dX12_readsPart_115 rfl rfl ?_
        refine n_iald dX12_readsPart_116 k_115 (by decide) ?_
        refine z_iconst dX12_readsPart_117 ⟨by decide, by decide⟩ ?_
        refine z_iadd dX12_readsPart_118 (h21.1 q23).1 ?_
        refine n_iast dX12_readsPart_119 k_115 (by decide) ?_
        exact z_return dX12_readsPart_120 rfl rfl ⟨rfl, (h21.1 q23).2⟩
      · refine z_aload_n dX12_readsPart_93 rfl ?_
        refine z_iload_n dX12_readsPart_94 rfl ?_
        refine n_vI (as := [(0, v2)]) (rest := []) dX12_readsPart_95 zm_X12_canStand zs_X12_174 k_113 (by decide) rfl rfl (Nat.le_of_ble_eq_true rfl) (Nat.le_of_ble_eq_true rfl) (h21.2 q24) (fun x27 m25 h26 => ?_)
        refine z_if_ne (tgt := 110) dX12_readsPart_98 (by decide) (fun q28 => ?_) (fun q29 => ?_)
        · refine z_aload_n dX12_readsPart_110 rfl ?_
          refine n_getp (ji := 1) dX12_readsPart_111 zf_X12_13 k_113 rfl (by decide) rfl p_113_1 ?_
          refine z_iconst dX12_readsPart_114 ⟨by decide, by decide⟩ ?_
          refine z_dup2 dX12_readsPart_115 rfl rfl ?_
          refine n_iald dX12_readsPart_116 k_115 (by decide) ?_
          refine z_iconst dX12_readsPart_117 ⟨by decide, by decide⟩ ?_
          refine z_iadd dX12_readsPart_118 (h26.1 q28).1 ?_
          refine n_iast dX12_readsPart_119 k_115 (by decide) ?_
          exact z_return dX12_readsPart_120 rfl rfl ⟨rfl, (h26.1 q28).2⟩
        · refine z_aload_n dX12_readsPart_101 rfl ?_
          refine z_iconst dX12_readsPart_102 ⟨by decide, by decide⟩ ?_
          refine z_aload_n dX12_readsPart_103 rfl ?_
          refine n_getf (ji := 11) (t := 0) dX12_readsPart_104 zf_X12_155 k_113 rfl (by decide) rfl ?_
          refine n_vN (as := [(0, 4), (0, m25 113 11)]) (rest := []) dX12_readsPart_107 zm_X12_fails zs_X12_151 k_113 (by decide) rfl rfl (Nat.le_of_ble_eq_true rfl) (Nat.le_of_ble_eq_true rfl) (h26.2 q29) (fun m30 h31 => ?_)
          refine z_aload_n dX12_readsPart_110 rfl ?_
          refine n_getp (ji := 1) dX12_readsPart_111 zf_X12_13 k_113 rfl (by decide) rfl p_113_1 ?_
          refine z_iconst dX12_readsPart_114 ⟨by decide, by decide⟩ ?_
          refine z_dup2 dX12_readsPart_115 rfl rfl ?_
          refine n_iald dX12_readsPart_116 k_115 (by decide) ?_
          refine z_iconst dX12_readsPart_117 ⟨by decide, by decide⟩ ?_
          refine z_iadd dX12_readsPart_118 h31.1 ?_
          refine n_iast dX12_readsPart_119 k_115 (by decide) ?_
          exact z_return dX12_readsPart_120 rfl rfl ⟨rfl, h31.2⟩
    · refine z_aload_n dX12_readsPart_64 rfl ?_
      refine n_getp (ji := 1) dX12_readsPart_65 zf_X12_13 k_113 rfl (by decide) rfl p_113_1 ?_
      refine z_iconst dX12_readsPart_68 ⟨by decide, by decide⟩ ?_
      refine z_iconst dX12_readsPart_69 ⟨by decide, by decide⟩ ?_
      refine z_iload_n dX12_readsPart_70 rfl ?_
      refine z_imul dX12_readsPart_71 (h16.2 q19).1 ?_
      refine z_iadd dX12_readsPart_72 (h16.2 q19).2.1 ?_
      refine z_iload_n dX12_readsPart_73 rfl ?_
      refine z_iadd dX12_readsPart_74 (h16.2 q19).2.2.1 ?_
      refine z_aload_n dX12_readsPart_75 rfl ?_
      refine n_vI (as := []) (rest := [(0, (1 + (3 * v2)) + v3), (2, 115)]) dX12_readsPart_76 zm_X12_number zs_X12_171 k_113 (by decide) rfl rfl (Nat.le_of_ble_eq_true rfl) (Nat.le_of_ble_eq_true rfl) (h16.2 q19).2.2.2 (fun x34 m32 h33 => ?_)
      refine n_iast dX12_readsPart_79 k_115 h33.1 ?_
      refine n_iinc (lo' := [some (2, 113), none, some (0, v2), some (0, v3 + 1)]) dX12_readsPart_80 rfl (by decide) h33.2.1 rfl ?_
      refine z_goto (tgt := 52) dX12_readsPart_83 (by decide) ?_
      refine z_drop [some (2, 113), none, some (0, v2), some (0, v3 + 1)] ⟨rfl, rfl, rfl, trivial⟩ ?_
      exact h33.2.2
set_option maxRecDepth 20000 in
theorem V_X12_isSolid  {μ : z_Mem} {d : Nat} {K : Int → z_Mem → Prop} (h : z_ri m_X12_isSolid 2 [some (2, 113), some (0, 0), none] μ (d + 1) K) : z_ci m_X12_isSolid [(2, 113)] μ (d + 1) K := by
  show z_R m_X12_isSolid 0 [some (2, 113), none, none] [] z_n μ (d + 1) _
  refine z_iconst dX12_isSolid_0 ⟨by decide, by decide⟩ ?_
  refine n_istore_n (lo' := [some (2, 113), some (0, 0), none]) dX12_isSolid_1 ⟨Nat.le_of_ble_eq_true rfl, Nat.le_of_ble_eq_true rfl⟩ rfl ?_
  refine z_drop [some (2, 113), some (0, 0), none] ⟨rfl, rfl, trivial⟩ ?_
  exact h
set_option maxRecDepth 20000 in
theorem V_X12_isSolid_2 {v1 : Int}  {μ : z_Mem} {d : Nat} {K : Int → z_Mem → Prop} (h : (μ 115 0 ≤ v1 → K 1 μ) ∧ (v1 < μ 115 0 → z_ri m_X12_isSolid 14 [some (2, 113), some (0, v1), some (0, 0)] μ (d + 1) K)) : z_ri m_X12_isSolid 2 [some (2, 113), some (0, v1), none] μ (d + 1) K := by
  show z_R m_X12_isSolid 2 [some (2, 113), some (0, v1), none] [] z_n μ (d + 1) _
  refine z_iload_n dX12_isSolid_2 rfl ?_
  refine z_aload_n dX12_isSolid_3 rfl ?_
  refine n_getp (ji := 1) dX12_isSolid_4 zf_X12_13 k_113 rfl (by decide) rfl p_113_1 ?_
  refine z_iconst dX12_isSolid_7 ⟨by decide, by decide⟩ ?_
  refine n_iald dX12_isSolid_8 k_115 (by decide) ?_
  refine z_icmp_ge (tgt := 67) dX12_isSolid_9 (by decide) (fun q1 => ?_) (fun q2 => ?_)
  · refine z_iconst dX12_isSolid_67 ⟨by decide, by decide⟩ ?_
    exact z_zreturn dX12_isSolid_68 rfl rfl (by decide) ⟨_, rfl, (h.1 q1)⟩
  · refine z_iconst dX12_isSolid_12 ⟨by decide, by decide⟩ ?_
    refine n_istore_n (lo' := [some (2, 113), some (0, v1), some (0, 0)]) dX12_isSolid_13 ⟨Nat.le_of_ble_eq_true rfl, Nat.le_of_ble_eq_true rfl⟩ rfl ?_
    refine z_drop [some (2, 113), some (0, v1), some (0, 0)] ⟨rfl, rfl, rfl, trivial⟩ ?_
    exact (h.2 q2)
set_option maxRecDepth 20000 in
theorem V_X12_isSolid_14 {v1 v2 : Int}  {μ : z_Mem} {d : Nat} {K : Int → z_Mem → Prop} (h : (v1 ≤ v2 → z_I (v1 + 1) ∧ (z_ri m_X12_isSolid 2 [some (2, 113), some (0, v1 + 1), none] μ (d + 1) K)) ∧ (v2 < v1 → z_I (3 * v1) ∧ (z_I (1 + (3 * v1)) ∧ (z_I (3 * v2) ∧ (z_I (1 + (3 * v2)) ∧ (z_ci m_X12_areAskew [(2, 113), (0, 1 + (3 * v1)), (0, 1 + (3 * v2))] μ d (fun x5 m3 => (x5 = 0 → z_I (v2 + 1) ∧ (z_ri m_X12_isSolid 14 [some (2, 113), some (0, v1), some (0, v2 + 1)] m3 (d + 1) K)) ∧ (¬ x5 = 0 → z_I (3 * v1) ∧ (z_I (1 + (3 * v1)) ∧ (z_I (3 * v2) ∧ (z_I (1 + (3 * v2)) ∧ (z_ci m_X12_hasBetween [(2, 113), (0, 1 + (3 * v1)), (0, 1 + (3 * v2))] m3 d (fun x10 m8 => (¬ x10 = 0 → z_I (v2 + 1) ∧ (z_ri m_X12_isSolid 14 [some (2, 113), some (0, v1), some (0, v2 + 1)] m8 (d + 1) K)) ∧ (x10 = 0 → K 0 m8)))))))))))))) : z_ri m_X12_isSolid 14 [some (2, 113), some (0, v1), some (0, v2)] μ (d + 1) K := by
  show z_R m_X12_isSolid 14 [some (2, 113), some (0, v1), some (0, v2)] [] z_n μ (d + 1) _
  refine z_iload_n dX12_isSolid_14 rfl ?_
  refine z_iload_n dX12_isSolid_15 rfl ?_
  refine z_icmp_ge (tgt := 61) dX12_isSolid_16 (by decide) (fun q1 => ?_) (fun q2 => ?_)
  · refine n_iinc (lo' := [some (2, 113), some (0, v1 + 1), some (0, v2)]) dX12_isSolid_61 rfl (by decide) (h.1 q1).1 rfl ?_
    refine z_goto (tgt := 2) dX12_isSolid_64 (by decide) ?_
    refine z_drop [some (2, 113), some (0, v1 + 1), none] ⟨rfl, rfl, trivial⟩ ?_
    exact (h.1 q1).2
  · refine z_aload_n dX12_isSolid_19 rfl ?_
    refine z_iconst dX12_isSolid_20 ⟨by decide, by decide⟩ ?_
    refine z_iconst dX12_isSolid_21 ⟨by decide, by decide⟩ ?_
    refine z_iload_n dX12_isSolid_22 rfl ?_
    refine z_imul dX12_isSolid_23 (h.2 q2).1 ?_
    refine z_iadd dX12_isSolid_24 (h.2 q2).2.1 ?_
    refine z_iconst dX12_isSolid_25 ⟨by decide, by decide⟩ ?_
    refine z_iconst dX12_isSolid_26 ⟨by decide, by decide⟩ ?_
    refine z_iload_n dX12_isSolid_27 rfl ?_
    refine z_imul dX12_isSolid_28 (h.2 q2).2.2.1 ?_
    refine z_iadd dX12_isSolid_29 (h.2 q2).2.2.2.1 ?_
    refine n_vI (as := [(0, 1 + (3 * v1)), (0, 1 + (3 * v2))]) (rest := []) dX12_isSolid_30 zm_X12_areAskew zs_X12_178 k_113 (by decide) rfl rfl (Nat.le_of_ble_eq_true rfl) (Nat.le_of_ble_eq_true rfl) (h.2 q2).2.2.2.2 (fun x5 m3 h4 => ?_)
    refine z_if_eq (tgt := 55) dX12_isSolid_33 (by decide) (fun q6 => ?_) (fun q7 => ?_)
    · refine n_iinc (lo' := [some (2, 113), some (0, v1), some (0, v2 + 1)]) dX12_isSolid_55 rfl (by decide) (h4.1 q6).1 rfl ?_
      refine z_goto (tgt := 14) dX12_isSolid_58 (by decide) ?_
      refine z_drop [some (2, 113), some (0, v1), some (0, v2 + 1)] ⟨rfl, rfl, rfl, trivial⟩ ?_
      exact (h4.1 q6).2
    · refine z_aload_n dX12_isSolid_36 rfl ?_
      refine z_iconst dX12_isSolid_37 ⟨by decide, by decide⟩ ?_
      refine z_iconst dX12_isSolid_38 ⟨by decide, by decide⟩ ?_
      refine z_iload_n dX12_isSolid_39 rfl ?_
      refine z_imul dX12_isSolid_40 (h4.2 q7).1 ?_
      refine z_iadd dX12_isSolid_41 (h4.2 q7).2.1 ?_
      refine z_iconst dX12_isSolid_42 ⟨by decide, by decide⟩ ?_
      refine z_iconst dX12_isSolid_43 ⟨by decide, by decide⟩ ?_
      refine z_iload_n dX12_isSolid_44 rfl ?_
      refine z_imul dX12_isSolid_45 (h4.2 q7).2.2.1 ?_
      refine z_iadd dX12_isSolid_46 (h4.2 q7).2.2.2.1 ?_
      refine n_vI (as := [(0, 1 + (3 * v1)), (0, 1 + (3 * v2))]) (rest := []) dX12_isSolid_47 zm_X12_hasBetween zs_X12_182 k_113 (by decide) rfl rfl (Nat.le_of_ble_eq_true rfl) (Nat.le_of_ble_eq_true rfl) (h4.2 q7).2.2.2.2 (fun x10 m8 h9 => ?_)
      refine z_if_ne (tgt := 55) dX12_isSolid_50 (by decide) (fun q11 => ?_) (fun q12 => ?_)
      · refine n_iinc (lo' := [some (2, 113), some (0, v1), some (0, v2 + 1)]) dX12_isSolid_55 rfl (by decide) (h9.1 q11).1 rfl ?_
        refine z_goto (tgt := 14) dX12_isSolid_58 (by decide) ?_
        refine z_drop [some (2, 113), some (0, v1), some (0, v2 + 1)] ⟨rfl, rfl, rfl, trivial⟩ ?_
        exact (h9.1 q11).2
      · refine z_iconst dX12_isSolid_53 ⟨by decide, by decide⟩ ?_
        exact z_zreturn dX12_isSolid_54 rfl rfl (by decide) ⟨_, rfl, (h9.2 q12)⟩
set_option maxRecDepth 20000 in
theorem V_X12_areAskew {a b : Int}  {μ : z_Mem} {d : Nat} {K : Int → z_Mem → Prop} (h : z_ri m_X12_areAskew 8 [some (2, 113), some (0, a), some (0, b), some (0, 0), some (0, 0), some (0, 0), none] μ (d + 1) K) : z_ci m_X12_areAskew [(2, 113), (0, a), (0, b)] μ (d + 1) K := by
  show z_R m_X12_areAskew 0 [some (2, 113), some (0, a), some (0, b), none, none, none, none] [] z_n μ (d + 1) _
  refine z_iconst dX12_areAskew_0 ⟨by decide, by decide⟩ ?_
  refine n_istore_n (lo' := [some (2, 113), some (0, a), some (0, b), some (0, 0), none, none, none]) dX12_areAskew_1 ⟨Nat.le_of_ble_eq_true rfl, Nat.le_of_ble_eq_true rfl⟩ rfl ?_
  refine z_iconst dX12_areAskew_2 ⟨by decide, by decide⟩ ?_
  refine n_istore (lo' := [some (2, 113), some (0, a), some (0, b), some (0, 0), some (0, 0), none, none]) dX12_areAskew_3 ⟨Nat.le_of_ble_eq_true rfl, Nat.le_of_ble_eq_true rfl⟩ rfl ?_
  refine z_iconst dX12_areAskew_5 ⟨by decide, by decide⟩ ?_
  refine n_istore (lo' := [some (2, 113), some (0, a), some (0, b), some (0, 0), some (0, 0), some (0, 0), none]) dX12_areAskew_6 ⟨Nat.le_of_ble_eq_true rfl, Nat.le_of_ble_eq_true rfl⟩ rfl ?_
  refine z_drop [some (2, 113), some (0, a), some (0, b), some (0, 0), some (0, 0), some (0, 0), none] ⟨rfl, rfl, rfl, rfl, rfl, rfl, trivial⟩ ?_
  exact h
set_option maxRecDepth 20000 in
theorem V_X12_areAskew_8 {v1 v2 v3 v4 v5 : Int}  {μ : z_Mem} {d : Nat} {K : Int → z_Mem → Prop} (h : (3 ≤ v5 → (¬ v3 = 2 → K 0 μ) ∧ (v3 = 2 → (¬ v4 = 0 → K 0 μ) ∧ (v4 = 0 → K 1 μ))) ∧ (v5 < 3 → z_I (v1 + v5) ∧ (((0 : Int) ≤ v1 + v5 ∧ v1 + v5 < 143) ∧ (z_I (v2 + v5) ∧ (((0 : Int) ≤ v2 + v5 ∧ v2 + v5 < 143) ∧ (z_I ((μ 115 (v1 + v5)) - (μ 115 (v2 + v5))) ∧ (z_I (max ((μ 115 (v1 + v5)) - (μ 115 (v2 + v5))) (-((μ 115 (v1 + v5)) - (μ 115 (v2 + v5))))) ∧ ((¬ max ((μ 115 (v1 + v5)) - (μ 115 (v2 + v5))) (-((μ 115 (v1 + v5)) - (μ 115 (v2 + v5)))) = 1 → z_ci m_X12_truth [(0, 0)] μ d (fun x11 m9 => z_I (v3 + x11) ∧ ((max ((μ 115 (v1 + v5)) - (μ 115 (v2 + v5))) (-((μ 115 (v1 + v5)) - (μ 115 (v2 + v5)))) ≤ 1 → z_ci m_X12_truth [(0, 0)] m9 d (fun x16 m14 => z_I (v4 + x16) ∧ (z_I (v5 + 1) ∧ (z_ri m_X12_areAskew 8 [some (2, 113), some (0, v1), some (0, v2), some (0, v3 + x11), some (0, v4 + x16), some (0, v5 + 1), none] m14 (d + 1) K)))) ∧ (1 < max ((μ 115 (v1 + v5)) - (μ 115 (v2 + v5))) (-((μ 115 (v1 + v5)) - (μ 115 (v2 + v5)))) → z_ci m_X12_truth [(0, 1)] m9 d (fun x19 m17 => z_I (v4 + x19) ∧ (z_I (v5 + 1) ∧ (z_ri m_X12_areAskew 8 [some (2, 113), some (0, v1), some (0, v2), some (0, v3 + x11), some (0, v4 + x19), some (0, v5 + 1), none] m17 (d + 1) K))))))) ∧ (max ((μ 115 (v1 + v5)) - (μ 115 (v2 + v5))) (-((μ 115 (v1 + v5)) - (μ 115 (v2 + v5)))) = 1 → z_ci m_X12_truth [(0, 1)] μ d (fun x22 m20 => z_I (v3 + x22) ∧ ((max ((μ 115 (v1 + v5)) - (μ 115 (v2 + v5))) (-((μ 115 (v1 + v5)) - (μ 115 (v2 + v5)))) ≤ 1 → z_ci m_X12_truth [(0, 0)] m20 d (fun x27 m25 => z_I (v4 + x27) ∧ (z_I (v5 + 1) ∧ (z_ri m_X12_areAskew 8 [some (2, 113), some (0, v1), some (0, v2), some (0, v3 + x22), some (0, v4 + x27), some (0, v5 + 1), none] m25 (d + 1) K)))) ∧ (1 < max ((μ 115 (v1 + v5)) - (μ 115 (v2 + v5))) (-((μ 115 (v1 + v5)) - (μ 115 (v2 + v5)))) → z_ci m_X12_truth [(0, 1)] m20 d (fun x30 m28 => z_I (v4 + x30) ∧ (z_I (v5 + 1) ∧ (z_ri m_X12_areAskew 8 [some (2, 113), some (0, v1), some (0, v2), some (0, v3 + x22), some (0, v4 + x30), some (0, v5 + 1), none] m28 (d + 1) K))))))))))))))) : z_ri m_X12_areAskew 8 [some (2, 113), some (0, v1), some (0, v2), some (0, v3), some (0, v4), some (0, v5), none] μ (d + 1) K := by
  show z_R m_X12_areAskew 8 [some (2, 113), some (0, v1), some (0, v2), some (0, v3), some (0, v4), some (0, v5), none] [] z_n μ (d + 1) _
  refine z_iload dX12_areAskew_8 rfl ?_
  refine z_iconst dX12_areAskew_10 ⟨by decide, by decide⟩ ?_
  refine z_icmp_ge (tgt := 80) dX12_areAskew_11 (by decide) (fun q1 => ?_) (fun q2 => ?_)
  · refine z_iload_n dX12_areAskew_80 rfl ?_
    refine z_iconst dX12_areAskew_81 ⟨by decide, by decide⟩ ?_
    refine z_icmp_ne (tgt := 94) dX12_areAskew_82 (by decide) (fun q3 => ?_) (fun q4 => ?_)
    · refine z_iconst dX12_areAskew_94 ⟨by decide, by decide⟩ ?_
      exact z_zreturn dX12_areAskew_95 rfl rfl (by decide) ⟨_, rfl, ((h.1 q1).1 q3)⟩
    · refine z_iload dX12_areAskew_85 rfl ?_
      refine z_if_ne (tgt := 94) dX12_areAskew_87 (by decide) (fun q5 => ?_) (fun q6 => ?_)
      · refine z_iconst dX12_areAskew_94 ⟨by decide, by decide⟩ ?_
        exact z_zreturn dX12_areAskew_95 rfl rfl (by decide) ⟨_, rfl, (((h.1 q1).2 q4).1 q5)⟩
      · refine z_iconst dX12_areAskew_90 ⟨by decide, by decide⟩ ?_
        refine z_goto (tgt := 95) dX12_areAskew_91 (by decide) ?_
        exact z_zreturn dX12_areAskew_95 rfl rfl (by decide) ⟨_, rfl, (((h.1 q1).2 q4).2 q6)⟩
  · refine z_aload_n dX12_areAskew_14 rfl ?_
    refine n_getp (ji := 1) dX12_areAskew_15 zf_X12_13 k_113 rfl (by decide) rfl p_113_1 ?_
    refine z_iload_n dX12_areAskew_18 rfl ?_
    refine z_iload dX12_areAskew_19 rfl ?_
    refine z_iadd dX12_areAskew_21 (h.2 q2).1 ?_
    refine n_iald dX12_areAskew_22 k_115 (h.2 q2).2.1 ?_
    refine z_aload_n dX12_areAskew_23 rfl ?_
    refine n_getp (ji := 1) dX12_areAskew_24 zf_X12_13 k_113 rfl (by decide) rfl p_113_1 ?_
    refine z_iload_n dX12_areAskew_27 rfl ?_
    refine z_iload dX12_areAskew_28 rfl ?_
    refine z_iadd dX12_areAskew_30 (h.2 q2).2.2.1 ?_
    refine n_iald dX12_areAskew_31 k_115 (h.2 q2).2.2.2.1 ?_
    refine z_isub dX12_areAskew_32 (h.2 q2).2.2.2.2.1 ?_
    refine z_mabs dX12_areAskew_33 zq_1411 zq_623 zq_133 zq_624 (Nat.le_of_ble_eq_true rfl) (h.2 q2).2.2.2.2.2.1 ?_
    refine n_istore (lo' := [some (2, 113), some (0, v1), some (0, v2), some (0, v3), some (0, v4), some (0, v5), some (0, max ((μ 115 (v1 + v5)) - (μ 115 (v2 + v5))) (-((μ 115 (v1 + v5)) - (μ 115 (v2 + v5)))))]) dX12_areAskew_36 ⟨Nat.le_of_ble_eq_true rfl, Nat.le_of_ble_eq_true rfl⟩ rfl ?_
    refine z_iload_n dX12_areAskew_38 rfl ?_
    refine z_iload dX12_areAskew_39 rfl ?_
    refine z_iconst dX12_areAskew_41 ⟨by decide, by decide⟩ ?_
    refine z_icmp_ne (tgt := 49) dX12_areAskew_42 (by decide) (fun q7 => ?_) (fun q8 => ?_)
    · refine z_iconst dX12_areAskew_49 ⟨by decide, by decide⟩ ?_
      refine n_sI (as := [(0, 0)]) (rest := [(0, v3)]) dX12_areAskew_50 zm_X12_truth zs_X12_185 rfl rfl (Nat.le_of_ble_eq_true rfl) (Nat.le_of_ble_eq_true rfl) ((h.2 q2).2.2.2.2.2.2.1 q7) (fun x11 m9 h10 => ?_)
      refine z_iadd dX12_areAskew_53 h10.1 ?_
      refine n_istore_n (lo' := [some (2, 113), some (0, v1), some (0, v2), some (0, v3 + x11), some (0, v4), some (0, v5), some (0, max ((μ 115 (v1 + v5)) - (μ 115 (v2 + v5))) (-((μ 115 (v1 + v5)) - (μ 115 (v2 + v5)))))]) dX12_areAskew_54 ⟨Nat.le_of_ble_eq_true rfl, Nat.le_of_ble_eq_true rfl⟩ rfl ?_
      refine z_iload dX12_areAskew_55 rfl ?_
      refine z_iload dX12_areAskew_57 rfl ?_
      refine z_iconst dX12_areAskew_59 ⟨by decide, by decide⟩ ?_
      refine z_icmp_le (tgt := 67) dX12_areAskew_60 (by decide) (fun q12 => ?_) (fun q13 => ?_)
      · refine z_iconst dX12_areAskew_67 ⟨by decide, by decide⟩ ?_
        refine n_sI (as := [(0, 0)]) (rest := [(0, v4)]) dX12_areAskew_68 zm_X12_truth zs_X12_185 rfl rfl (Nat.le_of_ble_eq_true rfl) (Nat.le_of_ble_eq_true rfl) (h10.2.1 q12) (fun x16 m14 h15 => ?_)
        refine z_iadd dX12_areAskew_71 h15.1 ?_
        refine n_istore (lo' := [some (2, 113), some (0, v1), some (0, v2), some (0, v3 + x11), some (0, v4 + x16), some (0, v5), some (0, max ((μ 115 (v1 + v5)) - (μ 115 (v2 + v5))) (-((μ 115 (v1 + v5)) - (μ 115 (v2 + v5)))))]) dX12_areAskew_72 ⟨Nat.le_of_ble_eq_true rfl, Nat.le_of_ble_eq_true rfl⟩ rfl ?_
        refine n_iinc (lo' := [some (2, 113), some (0, v1), some (0, v2), some (0, v3 + x11), some (0, v4 + x16), some (0, v5 + 1), some (0, max ((μ 115 (v1 + v5)) - (μ 115 (v2 + v5))) (-((μ 115 (v1 + v5)) - (μ 115 (v2 + v5)))))]) dX12_areAskew_74 rfl (by decide) h15.2.1 rfl ?_
        refine z_goto (tgt := 8) dX12_areAskew_77 (by decide) ?_
        refine z_drop [some (2, 113), some (0, v1), some (0, v2), some (0, v3 + x11), some (0, v4 + x16), some (0, v5 + 1), none] ⟨rfl, rfl, rfl, rfl, rfl, rfl, trivial⟩ ?_
        exact h15.2.2
      · refine z_iconst dX12_areAskew_63 ⟨by decide, by decide⟩ ?_
        refine z_goto (tgt := 68) dX12_areAskew_64 (by decide) ?_
        refine n_sI (as := [(0, 1)]) (rest := [(0, v4)]) dX12_areAskew_68 zm_X12_truth zs_X12_185 rfl rfl (Nat.le_of_ble_eq_true rfl) (Nat.le_of_ble_eq_true rfl) (h10.2.2 q13) (fun x19 m17 h18 => ?_)
        refine z_iadd dX12_areAskew_71 h18.1 ?_
        refine n_istore (lo' := [some (2, 113), some (0, v1), some (0, v2), some (0, v3 + x11), some (0, v4 + x19), some (0, v5), some (0, max ((μ 115 (v1 + v5)) - (μ 115 (v2 + v5))) (-((μ 115 (v1 + v5)) - (μ 115 (v2 + v5)))))]) dX12_areAskew_72 ⟨Nat.le_of_ble_eq_true rfl, Nat.le_of_ble_eq_true rfl⟩ rfl ?_
        refine n_iinc (lo' := [some (2, 113), some (0, v1), some (0, v2), some (0, v3 + x11), some (0, v4 + x19), some (0, v5 + 1), some (0, max ((μ 115 (v1 + v5)) - (μ 115 (v2 + v5))) (-((μ 115 (v1 + v5)) - (μ 115 (v2 + v5)))))]) dX12_areAskew_74 rfl (by decide) h18.2.1 rfl ?_
        refine z_goto (tgt := 8) dX12_areAskew_77 (by decide) ?_
        refine z_drop [some (2, 113), some (0, v1), some (0, v2), some (0, v3 + x11), some (0, v4 + x19), some (0, v5 + 1), none] ⟨rfl, rfl, rfl, rfl, rfl, rfl, trivial⟩ ?_
        exact h18.2.2
    · refine z_iconst dX12_areAskew_45 ⟨by decide, by decide⟩ ?_
      refine z_goto (tgt := 50) dX12_areAskew_46 (by decide) ?_
      refine n_sI (as := [(0, 1)]) (rest := [(0, v3)]) dX12_areAskew_50 zm_X12_truth zs_X12_185 rfl rfl (Nat.le_of_ble_eq_true rfl) (Nat.le_of_ble_eq_true rfl) ((h.2 q2).2.2.2.2.2.2.2 q8) (fun x22 m20 h21 => ?_)
      refine z_iadd dX12_areAskew_53 h21.1 ?_
      refine n_istore_n (lo' := [some (2, 113), some (0, v1), some (0, v2), some (0, v3 + x22), some (0, v4), some (0, v5), some (0, max ((μ 115 (v1 + v5)) - (μ 115 (v2 + v5))) (-((μ 115 (v1 + v5)) - (μ 115 (v2 + v5)))))]) dX12_areAskew_54 ⟨Nat.le_of_ble_eq_true rfl, Nat.le_of_ble_eq_true rfl⟩ rfl ?_
      refine z_iload dX12_areAskew_55 rfl ?_
      refine z_iload dX12_areAskew_57 rfl ?_
      refine z_iconst dX12_areAskew_59 ⟨by decide, by decide⟩ ?_
      refine z_icmp_le (tgt := 67) dX12_areAskew_60 (by decide) (fun q23 => ?_) (fun q24 => ?_)
      · refine z_iconst dX12_areAskew_67 ⟨by decide, by decide⟩ ?_
        refine n_sI (as := [(0, 0)]) (rest := [(0, v4)]) dX12_areAskew_68 zm_X12_truth zs_X12_185 rfl rfl (Nat.le_of_ble_eq_true rfl) (Nat.le_of_ble_eq_true rfl) (h21.2.1 q23) (fun x27 m25 h26 => ?_)
        refine z_iadd dX12_areAskew_71 h26.1 ?_
        refine n_istore (lo' := [some (2, 113), some (0, v1), some (0, v2), some (0, v3 + x22), some (0, v4 + x27), some (0, v5), some (0, max ((μ 115 (v1 + v5)) - (μ 115 (v2 + v5))) (-((μ 115 (v1 + v5)) - (μ 115 (v2 + v5)))))]) dX12_areAskew_72 ⟨Nat.le_of_ble_eq_true rfl, Nat.le_of_ble_eq_true rfl⟩ rfl ?_
        refine n_iinc (lo' := [some (2, 113), some (0, v1), some (0, v2), some (0, v3 + x22), some (0, v4 + x27), some (0, v5 + 1), some (0, max ((μ 115 (v1 + v5)) - (μ 115 (v2 + v5))) (-((μ 115 (v1 + v5)) - (μ 115 (v2 + v5)))))]) dX12_areAskew_74 rfl (by decide) h26.2.1 rfl ?_
        refine z_goto (tgt := 8) dX12_areAskew_77 (by decide) ?_
        refine z_drop [some (2, 113), some (0, v1), some (0, v2), some (0, v3 + x22), some (0, v4 + x27), some (0, v5 + 1), none] ⟨rfl, rfl, rfl, rfl, rfl, rfl, trivial⟩ ?_
        exact h26.2.2
      · refine z_iconst dX12_areAskew_63 ⟨by decide, by decide⟩ ?_
        refine z_goto (tgt := 68) dX12_areAskew_64 (by decide) ?_
        refine n_sI (as := [(0, 1)]) (rest := [(0, v4)]) dX12_areAskew_68 zm_X12_truth zs_X12_185 rfl rfl (Nat.le_of_ble_eq_true rfl) (Nat.le_of_ble_eq_true rfl) (h21.2.2 q24) (fun x30 m28 h29 => ?_)
        refine z_iadd dX12_areAskew_71 h29.1 ?_
        refine n_istore (lo' := [some (2, 113), some (0, v1), some (0, v2), some (0, v3 + x22), some (0, v4 + x30), some (0, v5), some (0, max ((μ 115 (v1 + v5)) - (μ 115 (v2 + v5))) (-((μ 115 (v1 + v5)) - (μ 115 (v2 + v5)))))]) dX12_areAskew_72 ⟨Nat.le_of_ble_eq_true rfl, Nat.le_of_ble_eq_true rfl⟩ rfl ?_
        refine n_iinc (lo' := [some (2, 113), some (0, v1), some (0, v2), some (0, v3 + x22), some (0, v4 + x30), some (0, v5 + 1), some (0, max ((μ 115 (v1 + v5)) - (μ 115 (v2 + v5))) (-((μ 115 (v1 + v5)) - (μ 115 (v2 + v5)))))]) dX12_areAskew_74 rfl (by decide) h29.2.1 rfl ?_
        refine z_goto (tgt := 8) dX12_areAskew_77 (by decide) ?_
        refine z_drop [some (2, 113), some (0, v1), some (0, v2), some (0, v3 + x22), some (0, v4 + x30), some (0, v5 + 1), none] ⟨rfl, rfl, rfl, rfl, rfl, rfl, trivial⟩ ?_
        exact h29.2.2
set_option maxRecDepth 20000 in
theorem V_X12_hasBetween {a b : Int}  {μ : z_Mem} {d : Nat} {K : Int → z_Mem → Prop} (h : z_ri m_X12_hasBetween 2 [some (2, 113), some (0, a), some (0, b), some (0, 0), none, none, none] μ (d + 1) K) : z_ci m_X12_hasBetween [(2, 113), (0, a), (0, b)] μ (d + 1) K := by
  show z_R m_X12_hasBetween 0 [some (2, 113), some (0, a), some (0, b), none, none, none, none] [] z_n μ (d + 1) _
  refine z_iconst dX12_hasBetween_0 ⟨by decide, by decide⟩ ?_
  refine n_istore_n (lo' := [some (2, 113), some (0, a), some (0, b), some (0, 0), none, none, none]) dX12_hasBetween_1 ⟨Nat.le_of_ble_eq_true rfl, Nat.le_of_ble_eq_true rfl⟩ rfl ?_
  refine z_drop [some (2, 113), some (0, a), some (0, b), some (0, 0), none, none, none] ⟨rfl, rfl, rfl, rfl, trivial⟩ ?_
  exact h
set_option maxRecDepth 20000 in
theorem V_X12_hasBetween_2 {v1 v2 v3 : Int}  {μ : z_Mem} {d : Nat} {K : Int → z_Mem → Prop} (h : (μ 115 0 ≤ v3 → K 0 μ) ∧ (v3 < μ 115 0 → z_ri m_X12_hasBetween 21 [some (2, 113), some (0, v1), some (0, v2), some (0, v3), some (0, 0), some (0, 0), some (0, 0)] μ (d + 1) K)) : z_ri m_X12_hasBetween 2 [some (2, 113), some (0, v1), some (0, v2), some (0, v3), none, none, none] μ (d + 1) K := by
  show z_R m_X12_hasBetween 2 [some (2, 113), some (0, v1), some (0, v2), some (0, v3), none, none, none] [] z_n μ (d + 1) _
  refine z_iload_n dX12_hasBetween_2 rfl ?_
  refine z_aload_n dX12_hasBetween_3 rfl ?_
  refine n_getp (ji := 1) dX12_hasBetween_4 zf_X12_13 k_113 rfl (by decide) rfl p_113_1 ?_
  refine z_iconst dX12_hasBetween_7 ⟨by decide, by decide⟩ ?_
  refine n_iald dX12_hasBetween_8 k_115 (by decide) ?_
  refine z_icmp_ge (tgt := 115) dX12_hasBetween_9 (by decide) (fun q1 => ?_) (fun q2 => ?_)
  · refine z_iconst dX12_hasBetween_115 ⟨by decide, by decide⟩ ?_
    exact z_zreturn dX12_hasBetween_116 rfl rfl (by decide) ⟨_, rfl, (h.1 q1)⟩
  · refine z_iconst dX12_hasBetween_12 ⟨by decide, by decide⟩ ?_
    refine n_istore (lo' := [some (2, 113), some (0, v1), some (0, v2), some (0, v3), some (0, 0), none, none]) dX12_hasBetween_13 ⟨Nat.le_of_ble_eq_true rfl, Nat.le_of_ble_eq_true rfl⟩ rfl ?_
    refine z_iconst dX12_hasBetween_15 ⟨by decide, by decide⟩ ?_
    refine n_istore (lo' := [some (2, 113), some (0, v1), some (0, v2), some (0, v3), some (0, 0), some (0, 0), none]) dX12_hasBetween_16 ⟨Nat.le_of_ble_eq_true rfl, Nat.le_of_ble_eq_true rfl⟩ rfl ?_
    refine z_iconst dX12_hasBetween_18 ⟨by decide, by decide⟩ ?_
    refine n_istore (lo' := [some (2, 113), some (0, v1), some (0, v2), some (0, v3), some (0, 0), some (0, 0), some (0, 0)]) dX12_hasBetween_19 ⟨Nat.le_of_ble_eq_true rfl, Nat.le_of_ble_eq_true rfl⟩ rfl ?_
    refine z_drop [some (2, 113), some (0, v1), some (0, v2), some (0, v3), some (0, 0), some (0, 0), some (0, 0)] ⟨rfl, rfl, rfl, rfl, rfl, rfl, rfl, trivial⟩ ?_
    exact (h.2 q2)
set_option maxRecDepth 20000 in
theorem V_X12_hasBetween_21 {v1 v2 v3 v4 v5 v6 : Int}  {μ : z_Mem} {d : Nat} {K : Int → z_Mem → Prop} (h : (3 ≤ v6 → (¬ v4 = 1 → z_I (v3 + 1) ∧ (z_ri m_X12_hasBetween 2 [some (2, 113), some (0, v1), some (0, v2), some (0, v3 + 1), none, none, none] μ (d + 1) K)) ∧ (v4 = 1 → (¬ v5 = 1 → z_I (v3 + 1) ∧ (z_ri m_X12_hasBetween 2 [some (2, 113), some (0, v1), some (0, v2), some (0, v3 + 1), none, none, none] μ (d + 1) K)) ∧ (v5 = 1 → K 1 μ))) ∧ (v6 < 3 → z_I (3 * v3) ∧ (z_I (1 + (3 * v3)) ∧ (z_I ((1 + (3 * v3)) + v6) ∧ (((0 : Int) ≤ (1 + (3 * v3)) + v6 ∧ (1 + (3 * v3)) + v6 < 143) ∧ (z_I (v1 + v6) ∧ (((0 : Int) ≤ v1 + v6 ∧ v1 + v6 < 143) ∧ (z_I ((μ 115 ((1 + (3 * v3)) + v6)) - (μ 115 (v1 + v6))) ∧ (z_I (max ((μ 115 ((1 + (3 * v3)) + v6)) - (μ 115 (v1 + v6))) (-((μ 115 ((1 + (3 * v3)) + v6)) - (μ 115 (v1 + v6))))) ∧ (z_I (v4 + (max ((μ 115 ((1 + (3 * v3)) + v6)) - (μ 115 (v1 + v6))) (-((μ 115 ((1 + (3 * v3)) + v6)) - (μ 115 (v1 + v6)))))) ∧ (z_I (3 * v3) ∧ (z_I (1 + (3 * v3)) ∧ (z_I ((1 + (3 * v3)) + v6) ∧ (((0 : Int) ≤ (1 + (3 * v3)) + v6 ∧ (1 + (3 * v3)) + v6 < 143) ∧ (z_I (v2 + v6) ∧ (((0 : Int) ≤ v2 + v6 ∧ v2 + v6 < 143) ∧ (z_I ((μ 115 ((1 + (3 * v3)) + v6)) - (μ 115 (v2 + v6))) ∧ (z_I (max ((μ 115 ((1 + (3 * v3)) + v6)) - (μ 115 (v2 + v6))) (-((μ 115 ((1 + (3 * v3)) + v6)) - (μ 115 (v2 + v6))))) ∧ (z_I (v5 + (max ((μ 115 ((1 + (3 * v3)) + v6)) - (μ 115 (v2 + v6))) (-((μ 115 ((1 + (3 * v3)) + v6)) - (μ 115 (v2 + v6)))))) ∧ (z_I (v6 + 1) ∧ (z_ri m_X12_hasBetween 21 [some (2, 113), some (0, v1), some (0, v2), some (0, v3), some (0, v4 + (max ((μ 115 ((1 + (3 * v3)) + v6)) - (μ 115 (v1 + v6))) (-((μ 115 ((1 + (3 * v3)) + v6)) - (μ 115 (v1 + v6)))))), some (0, v5 + (max ((μ 115 ((1 + (3 * v3)) + v6)) - (μ 115 (v2 + v6))) (-((μ 115 ((1 + (3 * v3)) + v6)) - (μ 115 (v2 + v6)))))), some (0, v6 + 1)] μ (d + 1) K))))))))))))))))))))) : z_ri m_X12_hasBetween 21 [some (2, 113), some (0, v1), some (0, v2), some (0, v3), some (0, v4), some (0, v5), some (0, v6)] μ (d + 1) K := by
  show z_R m_X12_hasBetween 21 [some (2, 113), some (0, v1), some (0, v2), some (0, v3), some (0, v4), some (0, v5), some (0, v6)] [] z_n μ (d + 1) _
  refine z_iload dX12_hasBetween_21 rfl ?_
  refine z_iconst dX12_hasBetween_23 ⟨by decide, by decide⟩ ?_
  refine z_icmp_ge (tgt := 95) dX12_hasBetween_24 (by decide) (fun q1 => ?_) (fun q2 => ?_)
  · refine z_iload dX12_hasBetween_95 rfl ?_
    refine z_iconst dX12_hasBetween_97 ⟨by decide, by decide⟩ ?_
    refine z_icmp_ne (tgt := 109) dX12_hasBetween_98 (by decide) (fun q3 => ?_) (fun q4 => ?_)
    · refine n_iinc (lo' := [some (2, 113), some (0, v1), some (0, v2), some (0, v3 + 1), some (0, v4), some (0, v5), some (0, v6)]) dX12_hasBetween_109 rfl (by decide) ((h.1 q1).1 q3).1 rfl ?_
      refine z_goto (tgt := 2) dX12_hasBetween_112 (by decide) ?_
      refine z_drop [some (2, 113), some (0, v1), some (0, v2), some (0, v3 + 1), none, none, none] ⟨rfl, rfl, rfl, rfl, trivial⟩ ?_
      exact ((h.1 q1).1 q3).2
    · refine z_iload dX12_hasBetween_101 rfl ?_
      refine z_iconst dX12_hasBetween_103 ⟨by decide, by decide⟩ ?_
      refine z_icmp_ne (tgt := 109) dX12_hasBetween_104 (by decide) (fun q5 => ?_) (fun q6 => ?_)
      · refine n_iinc (lo' := [some (2, 113), some (0, v1), some (0, v2), some (0, v3 + 1), some (0, v4), some (0, v5), some (0, v6)]) dX12_hasBetween_109 rfl (by decide) (((h.1 q1).2 q4).1 q5).1 rfl ?_
        refine z_goto (tgt := 2) dX12_hasBetween_112 (by decide) ?_
        refine z_drop [some (2, 113), some (0, v1), some (0, v2), some (0, v3 + 1), none, none, none] ⟨rfl, rfl, rfl, rfl, trivial⟩ ?_
        exact (((h.1 q1).2 q4).1 q5).2
      · refine z_iconst dX12_hasBetween_107 ⟨by decide, by decide⟩ ?_
        exact z_zreturn dX12_hasBetween_108 rfl rfl (by decide) ⟨_, rfl, (((h.1 q1).2 q4).2 q6)⟩
  · refine z_iload dX12_hasBetween_27 rfl ?_
    refine z_aload_n dX12_hasBetween_29 rfl ?_
    refine n_getp (ji := 1) dX12_hasBetween_30 zf_X12_13 k_113 rfl (by decide) rfl p_113_1 ?_
    refine z_iconst dX12_hasBetween_33 ⟨by decide, by decide⟩ ?_
    refine z_iconst dX12_hasBetween_34 ⟨by decide, by decide⟩ ?_
    refine z_iload_n dX12_hasBetween_35 rfl ?_
    refine z_imul dX12_hasBetween_36 (h.2 q2).1 ?_
    refine z_iadd dX12_hasBetween_37 (h.2 q2).2.1 ?_
    refine z_iload dX12_hasBetween_38 rfl ?_
    refine z_iadd dX12_hasBetween_40 (h.2 q2).2.2.1 ?_
    refine n_iald dX12_hasBetween_41 k_115 (h.2 q2).2.2.2.1 ?_
    refine z_aload_n dX12_hasBetween_42 rfl ?_
    refine n_getp (ji := 1) dX12_hasBetween_43 zf_X12_13 k_113 rfl (by decide) rfl p_113_1 ?_
    refine z_iload_n dX12_hasBetween_46 rfl ?_
    refine z_iload dX12_hasBetween_47 rfl ?_
    refine z_iadd dX12_hasBetween_49 (h.2 q2).2.2.2.2.1 ?_
    refine n_iald dX12_hasBetween_50 k_115 (h.2 q2).2.2.2.2.2.1 ?_
    refine z_isub dX12_hasBetween_51 (h.2 q2).2.2.2.2.2.2.1 ?_
    refine z_mabs dX12_hasBetween_52 zq_1411 zq_623 zq_133 zq_624 (Nat.le_of_ble_eq_true rfl) (h.2 q2).2.2.2.2.2.2.2.1 ?_
    refine z_iadd dX12_hasBetween_55 (h.2 q2).2.2.2.2.2.2.2.2.1 ?_
    refine n_istore (lo' := [some (2, 113), some (0, v1), some (0, v2), some (0, v3), some (0, v4 + (max ((μ 115 ((1 + (3 * v3)) + v6)) - (μ 115 (v1 + v6))) (-((μ 115 ((1 + (3 * v3)) + v6)) - (μ 115 (v1 + v6)))))), some (0, v5), some (0, v6)]) dX12_hasBetween_56 ⟨Nat.le_of_ble_eq_true rfl, Nat.le_of_ble_eq_true rfl⟩ rfl ?_
    refine z_iload dX12_hasBetween_58 rfl ?_
    refine z_aload_n dX12_hasBetween_60 rfl ?_
    refine n_getp (ji := 1) dX12_hasBetween_61 zf_X12_13 k_113 rfl (by decide) rfl p_113_1 ?_
    refine z_iconst dX12_hasBetween_64 ⟨by decide, by decide⟩ ?_
    refine z_iconst dX12_hasBetween_65 ⟨by decide, by decide⟩ ?_
    refine z_iload_n dX12_hasBetween_66 rfl ?_
    refine z_imul dX12_hasBetween_67 (h.2 q2).2.2.2.2.2.2.2.2.2.1 ?_
    refine z_iadd dX12_hasBetween_68 (h.2 q2).2.2.2.2.2.2.2.2.2.2.1 ?_
    refine z_iload dX12_hasBetween_69 rfl ?_
    refine z_iadd dX12_hasBetween_71 (h.2 q2).2.2.2.2.2.2.2.2.2.2.2.1 ?_
    refine n_iald dX12_hasBetween_72 k_115 (h.2 q2).2.2.2.2.2.2.2.2.2.2.2.2.1 ?_
    refine z_aload_n dX12_hasBetween_73 rfl ?_
    refine n_getp (ji := 1) dX12_hasBetween_74 zf_X12_13 k_113 rfl (by decide) rfl p_113_1 ?_
    refine z_iload_n dX12_hasBetween_77 rfl ?_
    refine z_iload dX12_hasBetween_78 rfl ?_
    refine z_iadd dX12_hasBetween_80 (h.2 q2).2.2.2.2.2.2.2.2.2.2.2.2.2.1 ?_
    refine n_iald dX12_hasBetween_81 k_115 (h.2 q2).2.2.2.2.2.2.2.2.2.2.2.2.2.2.1 ?_
    refine z_isub dX12_hasBetween_82 (h.2 q2).2.2.2.2.2.2.2.2.2.2.2.2.2.2.2.1 ?_
    refine z_mabs dX12_hasBetween_83 zq_1411 zq_623 zq_133 zq_624 (Nat.le_of_ble_eq_true rfl) (h.2 q2).2.2.2.2.2.2.2.2.2.2.2.2.2.2.2.2.1 ?_
    refine z_iadd dX12_hasBetween_86 (h.2 q2).2.2.2.2.2.2.2.2.2.2.2.2.2.2.2.2.2.1 ?_
    refine n_istore (lo' := [some (2, 113), some (0, v1), some (0, v2), some (0, v3), some (0, v4 + (max ((μ 115 ((1 + (3 * v3)) + v6)) - (μ 115 (v1 + v6))) (-((μ 115 ((1 + (3 * v3)) + v6)) - (μ 115 (v1 + v6)))))), some (0, v5 + (max ((μ 115 ((1 + (3 * v3)) + v6)) - (μ 115 (v2 + v6))) (-((μ 115 ((1 + (3 * v3)) + v6)) - (μ 115 (v2 + v6)))))), some (0, v6)]) dX12_hasBetween_87 ⟨Nat.le_of_ble_eq_true rfl, Nat.le_of_ble_eq_true rfl⟩ rfl ?_
    refine n_iinc (lo' := [some (2, 113), some (0, v1), some (0, v2), some (0, v3), some (0, v4 + (max ((μ 115 ((1 + (3 * v3)) + v6)) - (μ 115 (v1 + v6))) (-((μ 115 ((1 + (3 * v3)) + v6)) - (μ 115 (v1 + v6)))))), some (0, v5 + (max ((μ 115 ((1 + (3 * v3)) + v6)) - (μ 115 (v2 + v6))) (-((μ 115 ((1 + (3 * v3)) + v6)) - (μ 115 (v2 + v6)))))), some (0, v6 + 1)]) dX12_hasBetween_89 rfl (by decide) (h.2 q2).2.2.2.2.2.2.2.2.2.2.2.2.2.2.2.2.2.2.1 rfl ?_
    refine z_goto (tgt := 21) dX12_hasBetween_92 (by decide) ?_
    refine z_drop [some (2, 113), some (0, v1), some (0, v2), some (0, v3), some (0, v4 + (max ((μ 115 ((1 + (3 * v3)) + v6)) - (μ 115 (v1 + v6))) (-((μ 115 ((1 + (3 * v3)) + v6)) - (μ 115 (v1 + v6)))))), some (0, v5 + (max ((μ 115 ((1 + (3 * v3)) + v6)) - (μ 115 (v2 + v6))) (-((μ 115 ((1 + (3 * v3)) + v6)) - (μ 115 (v2 + v6)))))), some (0, v6 + 1)] ⟨rfl, rfl, rfl, rfl, rfl, rfl, rfl, trivial⟩ ?_
    exact (h.2 q2).2.2.2.2.2.2.2.2.2.2.2.2.2.2.2.2.2.2.2
set_option maxRecDepth 20000 in
theorem V_X12_solid  {μ : z_Mem} {d : Nat} {K : Int → z_Mem → Prop} (h : z_ri m_X12_solid 12 [some (2, 113), some (0, 0)] (z_st (z_st μ 113 9 0) 113 10 (-1)) (d + 1) K) : z_ci m_X12_solid [(2, 113)] μ (d + 1) K := by
  show z_R m_X12_solid 0 [some (2, 113), none] [] z_n μ (d + 1) _
  refine z_aload_n dX12_solid_0 rfl ?_
  refine z_iconst dX12_solid_1 ⟨by decide, by decide⟩ ?_
  refine n_putI (ji := 9) dX12_solid_2 zf_X12_122 k_113 rfl (by decide) rfl ?_
  refine z_aload_n dX12_solid_5 rfl ?_
  refine z_iconst dX12_solid_6 ⟨by decide, by decide⟩ ?_
  refine n_putI (ji := 10) dX12_solid_7 zf_X12_129 k_113 rfl (by decide) rfl ?_
  refine z_iconst dX12_solid_10 ⟨by decide, by decide⟩ ?_
  refine n_istore_n (lo' := [some (2, 113), some (0, 0)]) dX12_solid_11 ⟨Nat.le_of_ble_eq_true rfl, Nat.le_of_ble_eq_true rfl⟩ rfl ?_
  refine z_drop [some (2, 113), some (0, 0)] ⟨rfl, rfl, trivial⟩ ?_
  exact h
set_option maxRecDepth 20000 in
theorem V_X12_solid_12 {v1 : Int}  {μ : z_Mem} {d : Nat} {K : Int → z_Mem → Prop} (h : (143 ≤ v1 → z_cn m_X12_readsPart [(2, 113)] μ d (fun m3 => z_ri m_X12_solid 46 [some (2, 113), none] m3 (d + 1) K)) ∧ (v1 < 143 → (v1 < 83 → ((0 : Int) ≤ v1 ∧ v1 < 143) ∧ (z_I (v1 + 1) ∧ (z_ri m_X12_solid 12 [some (2, 113), some (0, v1 + 1)] (z_st μ 115 v1 0) (d + 1) K))) ∧ (83 ≤ v1 → ((0 : Int) ≤ v1 ∧ v1 < 143) ∧ (z_I (v1 + 1) ∧ (z_ri m_X12_solid 12 [some (2, 113), some (0, v1 + 1)] (z_st μ 115 v1 1) (d + 1) K))))) : z_ri m_X12_solid 12 [some (2, 113), some (0, v1)] μ (d + 1) K := by
  show z_R m_X12_solid 12 [some (2, 113), some (0, v1)] [] z_n μ (d + 1) _
  refine z_iload_n dX12_solid_12 rfl ?_
  refine z_sipush dX12_solid_13 (by decide) ?_
  refine z_icmp_ge (tgt := 42) dX12_solid_16 (by decide) (fun q1 => ?_) (fun q2 => ?_)
  · refine z_aload_n dX12_solid_42 rfl ?_
    refine n_vN (as := []) (rest := []) dX12_solid_43 zm_X12_readsPart zs_X12_189 k_113 (by decide) rfl rfl (Nat.le_of_ble_eq_true rfl) (Nat.le_of_ble_eq_true rfl) (h.1 q1) (fun m3 h4 => ?_)
    refine z_drop [some (2, 113), none] ⟨rfl, trivial⟩ ?_
    exact h4
  · refine z_aload_n dX12_solid_19 rfl ?_
    refine n_getp (ji := 1) dX12_solid_20 zf_X12_13 k_113 rfl (by decide) rfl p_113_1 ?_
    refine z_iload_n dX12_solid_23 rfl ?_
    refine z_iload_n dX12_solid_24 rfl ?_
    refine z_bipush dX12_solid_25 (by decide) ?_
    refine z_icmp_lt (tgt := 34) dX12_solid_27 (by decide) (fun q5 => ?_) (fun q6 => ?_)
    · refine z_iconst dX12_solid_34 ⟨by decide, by decide⟩ ?_
      refine n_iast dX12_solid_35 k_115 ((h.2 q2).1 q5).1 ?_
      refine n_iinc (lo' := [some (2, 113), some (0, v1 + 1)]) dX12_solid_36 rfl (by decide) ((h.2 q2).1 q5).2.1 rfl ?_
      refine z_goto (tgt := 12) dX12_solid_39 (by decide) ?_
      refine z_drop [some (2, 113), some (0, v1 + 1)] ⟨rfl, rfl, trivial⟩ ?_
      exact ((h.2 q2).1 q5).2.2
    · refine z_iconst dX12_solid_30 ⟨by decide, by decide⟩ ?_
      refine z_goto (tgt := 35) dX12_solid_31 (by decide) ?_
      refine n_iast dX12_solid_35 k_115 ((h.2 q2).2 q6).1 ?_
      refine n_iinc (lo' := [some (2, 113), some (0, v1 + 1)]) dX12_solid_36 rfl (by decide) ((h.2 q2).2 q6).2.1 rfl ?_
      refine z_goto (tgt := 12) dX12_solid_39 (by decide) ?_
      refine z_drop [some (2, 113), some (0, v1 + 1)] ⟨rfl, rfl, trivial⟩ ?_
      exact ((h.2 q2).2 q6).2.2
set_option maxRecDepth 20000 in
theorem V_X12_solid_46  {μ : z_Mem} {d : Nat} {K : Int → z_Mem → Prop} (h : z_ci m_X12_isRight [(2, 113)] μ d (fun x3 m1 => (x3 = 0 → z_ri m_X12_solid 79 [some (2, 113), none] m1 (d + 1) K) ∧ (¬ x3 = 0 → z_ci m_X12_next [(2, 113)] m1 d (fun x8 m6 => (¬ x8 = 59 → z_ri m_X12_solid 79 [some (2, 113), none] m6 (d + 1) K) ∧ (x8 = 59 → z_I ((m6 113 9) + 1) ∧ (z_cn m_X12_readsPart [(2, 113)] (z_st m6 113 9 ((m6 113 9) + 1)) d (fun m11 => z_ri m_X12_solid 46 [some (2, 113), none] m11 (d + 1) K))))))) : z_ri m_X12_solid 46 [some (2, 113), none] μ (d + 1) K := by
  show z_R m_X12_solid 46 [some (2, 113), none] [] z_n μ (d + 1) _
  refine z_aload_n dX12_solid_46 rfl ?_
  refine n_vI (as := []) (rest := []) dX12_solid_47 zm_X12_isRight zs_X12_132 k_113 (by decide) rfl rfl (Nat.le_of_ble_eq_true rfl) (Nat.le_of_ble_eq_true rfl) h (fun x3 m1 h2 => ?_)
  refine z_if_eq (tgt := 79) dX12_solid_50 (by decide) (fun q4 => ?_) (fun q5 => ?_)
  · refine z_drop [some (2, 113), none] ⟨rfl, trivial⟩ ?_
    exact (h2.1 q4)
  · refine z_aload_n dX12_solid_53 rfl ?_
    refine n_vI (as := []) (rest := []) dX12_solid_54 zm_X12_next zs_X12_136 k_113 (by decide) rfl rfl (Nat.le_of_ble_eq_true rfl) (Nat.le_of_ble_eq_true rfl) (h2.2 q5) (fun x8 m6 h7 => ?_)
    refine z_bipush dX12_solid_57 (by decide) ?_
    refine z_icmp_ne (tgt := 79) dX12_solid_59 (by decide) (fun q9 => ?_) (fun q10 => ?_)
    · refine z_drop [some (2, 113), none] ⟨rfl, trivial⟩ ?_
      exact (h7.1 q9)
    · refine z_aload_n dX12_solid_62 rfl ?_
      refine z_dup dX12_solid_63 rfl ?_
      refine n_getf (ji := 9) (t := 0) dX12_solid_64 zf_X12_122 k_113 rfl (by decide) rfl ?_
      refine z_iconst dX12_solid_67 ⟨by decide, by decide⟩ ?_
      refine z_iadd dX12_solid_68 (h7.2 q10).1 ?_
      refine n_putI (ji := 9) dX12_solid_69 zf_X12_122 k_113 rfl (by decide) rfl ?_
      refine z_aload_n dX12_solid_72 rfl ?_
      refine n_vN (as := []) (rest := []) dX12_solid_73 zm_X12_readsPart zs_X12_189 k_113 (by decide) rfl rfl (Nat.le_of_ble_eq_true rfl) (Nat.le_of_ble_eq_true rfl) (h7.2 q10).2 (fun m11 h12 => ?_)
      refine z_goto (tgt := 46) dX12_solid_76 (by decide) ?_
      refine z_drop [some (2, 113), none] ⟨rfl, trivial⟩ ?_
      exact h12
set_option maxRecDepth 20000 in
theorem V_X12_solid_79  {μ : z_Mem} {d : Nat} {K : Int → z_Mem → Prop} (h : z_ci m_X12_isRight [(2, 113)] μ d (fun x3 m1 => (x3 = 0 → z_ri m_X12_solid 103 [some (2, 113), none] m1 (d + 1) K) ∧ (¬ x3 = 0 → z_ci m_X12_next [(2, 113)] m1 d (fun x8 m6 => (x8 = (-1) → z_ri m_X12_solid 103 [some (2, 113), none] m6 (d + 1) K) ∧ (¬ x8 = (-1) → z_cn m_X12_fails [(2, 113), (0, 1), (0, m6 113 9)] m6 d (fun m11 => z_ri m_X12_solid 103 [some (2, 113), none] m11 (d + 1) K)))))) : z_ri m_X12_solid 79 [some (2, 113), none] μ (d + 1) K := by
  show z_R m_X12_solid 79 [some (2, 113), none] [] z_n μ (d + 1) _
  refine z_aload_n dX12_solid_79 rfl ?_
  refine n_vI (as := []) (rest := []) dX12_solid_80 zm_X12_isRight zs_X12_132 k_113 (by decide) rfl rfl (Nat.le_of_ble_eq_true rfl) (Nat.le_of_ble_eq_true rfl) h (fun x3 m1 h2 => ?_)
  refine z_if_eq (tgt := 103) dX12_solid_83 (by decide) (fun q4 => ?_) (fun q5 => ?_)
  · refine z_drop [some (2, 113), none] ⟨rfl, trivial⟩ ?_
    exact (h2.1 q4)
  · refine z_aload_n dX12_solid_86 rfl ?_
    refine n_vI (as := []) (rest := []) dX12_solid_87 zm_X12_next zs_X12_136 k_113 (by decide) rfl rfl (Nat.le_of_ble_eq_true rfl) (Nat.le_of_ble_eq_true rfl) (h2.2 q5) (fun x8 m6 h7 => ?_)
    refine z_iconst dX12_solid_90 ⟨by decide, by decide⟩ ?_
    refine z_icmp_eq (tgt := 103) dX12_solid_91 (by decide) (fun q9 => ?_) (fun q10 => ?_)
    · refine z_drop [some (2, 113), none] ⟨rfl, trivial⟩ ?_
      exact (h7.1 q9)
    · refine z_aload_n dX12_solid_94 rfl ?_
      refine z_iconst dX12_solid_95 ⟨by decide, by decide⟩ ?_
      refine z_aload_n dX12_solid_96 rfl ?_
      refine n_getf (ji := 9) (t := 0) dX12_solid_97 zf_X12_122 k_113 rfl (by decide) rfl ?_
      refine n_vN (as := [(0, 1), (0, m6 113 9)]) (rest := []) dX12_solid_100 zm_X12_fails zs_X12_151 k_113 (by decide) rfl rfl (Nat.le_of_ble_eq_true rfl) (Nat.le_of_ble_eq_true rfl) (h7.2 q10) (fun m11 h12 => ?_)
      refine z_drop [some (2, 113), none] ⟨rfl, trivial⟩ ?_
      exact h12
set_option maxRecDepth 20000 in
theorem V_X12_solid_103  {μ : z_Mem} {d : Nat} {K : Int → z_Mem → Prop} (h : z_ci m_X12_isRight [(2, 113)] μ d (fun x3 m1 => (x3 = 0 → z_ri m_X12_solid 126 [some (2, 113), none] m1 (d + 1) K) ∧ (¬ x3 = 0 → z_ci m_X12_isSolid [(2, 113)] m1 d (fun x8 m6 => (¬ x8 = 0 → z_ri m_X12_solid 126 [some (2, 113), none] m6 (d + 1) K) ∧ (x8 = 0 → z_cn m_X12_fails [(2, 113), (0, 5), (0, m6 113 8)] m6 d (fun m11 => z_ri m_X12_solid 126 [some (2, 113), none] m11 (d + 1) K)))))) : z_ri m_X12_solid 103 [some (2, 113), none] μ (d + 1) K := by
  show z_R m_X12_solid 103 [some (2, 113), none] [] z_n μ (d + 1) _
  refine z_aload_n dX12_solid_103 rfl ?_
  refine n_vI (as := []) (rest := []) dX12_solid_104 zm_X12_isRight zs_X12_132 k_113 (by decide) rfl rfl (Nat.le_of_ble_eq_true rfl) (Nat.le_of_ble_eq_true rfl) h (fun x3 m1 h2 => ?_)
  refine z_if_eq (tgt := 126) dX12_solid_107 (by decide) (fun q4 => ?_) (fun q5 => ?_)
  · refine z_drop [some (2, 113), none] ⟨rfl, trivial⟩ ?_
    exact (h2.1 q4)
  · refine z_aload_n dX12_solid_110 rfl ?_
    refine n_vI (as := []) (rest := []) dX12_solid_111 zm_X12_isSolid zs_X12_192 k_113 (by decide) rfl rfl (Nat.le_of_ble_eq_true rfl) (Nat.le_of_ble_eq_true rfl) (h2.2 q5) (fun x8 m6 h7 => ?_)
    refine z_if_ne (tgt := 126) dX12_solid_114 (by decide) (fun q9 => ?_) (fun q10 => ?_)
    · refine z_drop [some (2, 113), none] ⟨rfl, trivial⟩ ?_
      exact (h7.1 q9)
    · refine z_aload_n dX12_solid_117 rfl ?_
      refine z_iconst dX12_solid_118 ⟨by decide, by decide⟩ ?_
      refine z_aload_n dX12_solid_119 rfl ?_
      refine n_getf (ji := 8) (t := 0) dX12_solid_120 zf_X12_114 k_113 rfl (by decide) rfl ?_
      refine n_vN (as := [(0, 5), (0, m6 113 8)]) (rest := []) dX12_solid_123 zm_X12_fails zs_X12_151 k_113 (by decide) rfl rfl (Nat.le_of_ble_eq_true rfl) (Nat.le_of_ble_eq_true rfl) (h7.2 q10) (fun m11 h12 => ?_)
      refine z_drop [some (2, 113), none] ⟨rfl, trivial⟩ ?_
      exact h12
set_option maxRecDepth 20000 in
theorem V_X12_solid_126  {μ : z_Mem} {d : Nat} {K : Int → z_Mem → Prop} (h : z_ci m_X12_isRight [(2, 113)] (z_st μ 113 8 0) d (fun x3 m1 => (¬ x3 = 0 → z_cn m_X12_moves [(2, 115), (0, 0), (2, 114), (0, 0)] m1 d (fun m6 => z_cn m_X12_laysSkin [(2, 113)] (z_st m6 113 6 0) d (fun m8 => K (m8 113 21) m8))) ∧ (x3 = 0 → z_I ((-2) - (m1 113 10)) ∧ (K ((-2) - (m1 113 10)) m1)))) : z_ri m_X12_solid 126 [some (2, 113), none] μ (d + 1) K := by
  show z_R m_X12_solid 126 [some (2, 113), none] [] z_n μ (d + 1) _
  refine z_aload_n dX12_solid_126 rfl ?_
  refine z_iconst dX12_solid_127 ⟨by decide, by decide⟩ ?_
  refine n_putI (ji := 8) dX12_solid_128 zf_X12_114 k_113 rfl (by decide) rfl ?_
  refine z_aload_n dX12_solid_131 rfl ?_
  refine n_vI (as := []) (rest := []) dX12_solid_132 zm_X12_isRight zs_X12_132 k_113 (by decide) rfl rfl (Nat.le_of_ble_eq_true rfl) (Nat.le_of_ble_eq_true rfl) h (fun x3 m1 h2 => ?_)
  refine z_if_ne (tgt := 146) dX12_solid_135 (by decide) (fun q4 => ?_) (fun q5 => ?_)
  · refine z_aload_n dX12_solid_146 rfl ?_
    refine n_getp (ji := 1) dX12_solid_147 zf_X12_13 k_113 rfl (by decide) rfl p_113_1 ?_
    refine z_iconst dX12_solid_150 ⟨by decide, by decide⟩ ?_
    refine z_aload_n dX12_solid_151 rfl ?_
    refine n_getp (ji := 0) dX12_solid_152 zf_X12_9 k_113 rfl (by decide) rfl p_113_0 ?_
    refine z_iconst dX12_solid_155 ⟨by decide, by decide⟩ ?_
    refine n_sN (as := [(2, 115), (0, 0), (2, 114), (0, 0)]) (rest := []) dX12_solid_156 zm_X12_moves zs_X12_195 rfl rfl (Nat.le_of_ble_eq_true rfl) (Nat.le_of_ble_eq_true rfl) (h2.1 q4) (fun m6 h7 => ?_)
    refine z_aload_n dX12_solid_159 rfl ?_
    refine z_iconst dX12_solid_160 ⟨by decide, by decide⟩ ?_
    refine n_putI (ji := 6) dX12_solid_161 zf_X12_199 k_113 rfl (by decide) rfl ?_
    refine z_aload_n dX12_solid_164 rfl ?_
    refine n_vN (as := []) (rest := []) dX12_solid_165 zm_X12_laysSkin zs_X12_202 k_113 (by decide) rfl rfl (Nat.le_of_ble_eq_true rfl) (Nat.le_of_ble_eq_true rfl) h7 (fun m8 h9 => ?_)
    refine z_aload_n dX12_solid_168 rfl ?_
    refine n_getf (ji := 21) (t := 0) dX12_solid_169 zf_X12_205 k_113 rfl (by decide) rfl ?_
    exact z_ireturn dX12_solid_172 rfl rfl ⟨_, rfl, h9⟩
  · refine z_bipush dX12_solid_138 (by decide) ?_
    refine z_aload_n dX12_solid_140 rfl ?_
    refine n_getf (ji := 10) (t := 0) dX12_solid_141 zf_X12_129 k_113 rfl (by decide) rfl ?_
    refine z_isub dX12_solid_144 (h2.2 q5).1 ?_
    exact z_ireturn dX12_solid_145 rfl rfl ⟨_, rfl, (h2.2 q5).2⟩
set_option maxRecDepth 20000 in
theorem V_X12_wayOf {a b : Int}  {μ : z_Mem} {d : Nat} {K : Int → z_Mem → Prop} (h : ((0 : Int) ≤ b) ∧ ((¬ b % 2 = 0 → ((0 : Int) ≤ a ∧ a < 6) ∧ ((2 ≤ b → ((0 : Int) ≤ z_S 7 a ∧ (0 : Int) ≤ 1) ∧ (K ((((z_S 7 a : Int).toNat ^^^ (1 : Int).toNat : Nat)) : Int) μ)) ∧ (b < 2 → K (z_S 7 a) μ))) ∧ (b % 2 = 0 → ((0 : Int) ≤ a ∧ a < 6) ∧ ((2 ≤ b → ((0 : Int) ≤ z_S 6 a ∧ (0 : Int) ≤ 1) ∧ (K ((((z_S 6 a : Int).toNat ^^^ (1 : Int).toNat : Nat)) : Int) μ)) ∧ (b < 2 → K (z_S 6 a) μ))))) : z_ci m_X12_wayOf [(0, a), (0, b)] μ d K := by
  show z_R m_X12_wayOf 0 [some (0, a), some (0, b), none] [] z_n μ d _
  refine z_iload_n dX12_wayOf_0 rfl ?_
  refine z_iconst dX12_wayOf_1 ⟨by decide, by decide⟩ ?_
  refine z_irem dX12_wayOf_2 h.1 (by decide) ?_
  refine z_if_ne (tgt := 14) dX12_wayOf_3 (by decide) (fun q1 => ?_) (fun q2 => ?_)
  · refine n_gets (j := 7) (oj := 1008) dX12_wayOf_14 rfl zq_1453 (by decide) ?_
    refine z_iload_n dX12_wayOf_17 rfl ?_
    refine n_sald (j := 7) (L := 6) dX12_wayOf_18 rfl (by decide) (by decide) (h.2.1 q1).1 ?_
    refine n_istore_n (lo' := [some (0, a), some (0, b), some (0, z_S 7 a)]) dX12_wayOf_19 ⟨Nat.le_of_ble_eq_true rfl, Nat.le_of_ble_eq_true rfl⟩ rfl ?_
    refine z_iload_n dX12_wayOf_20 rfl ?_
    refine z_iconst dX12_wayOf_21 ⟨by decide, by decide⟩ ?_
    refine z_icmp_ge (tgt := 29) dX12_wayOf_22 (by decide) (fun q3 => ?_) (fun q4 => ?_)
    · refine z_iload_n dX12_wayOf_29 rfl ?_
      refine z_iconst dX12_wayOf_30 ⟨by decide, by decide⟩ ?_
      refine z_ixor dX12_wayOf_31 ((h.2.1 q1).2.1 q3).1.1 ((h.2.1 q1).2.1 q3).1.2 ?_
      exact z_ireturn dX12_wayOf_32 rfl rfl ⟨_, rfl, ((h.2.1 q1).2.1 q3).2⟩
    · refine z_iload_n dX12_wayOf_25 rfl ?_
      refine z_goto (tgt := 32) dX12_wayOf_26 (by decide) ?_
      exact z_ireturn dX12_wayOf_32 rfl rfl ⟨_, rfl, ((h.2.1 q1).2.2 q4)⟩
  · refine n_gets (j := 6) (oj := 1007) dX12_wayOf_6 rfl zq_1451 (by decide) ?_
    refine z_iload_n dX12_wayOf_9 rfl ?_
    refine n_sald (j := 6) (L := 6) dX12_wayOf_10 rfl (by decide) (by decide) (h.2.2 q2).1 ?_
    refine z_goto (tgt := 19) dX12_wayOf_11 (by decide) ?_
    refine n_istore_n (lo' := [some (0, a), some (0, b), some (0, z_S 6 a)]) dX12_wayOf_19 ⟨Nat.le_of_ble_eq_true rfl, Nat.le_of_ble_eq_true rfl⟩ rfl ?_
    refine z_iload_n dX12_wayOf_20 rfl ?_
    refine z_iconst dX12_wayOf_21 ⟨by decide, by decide⟩ ?_
    refine z_icmp_ge (tgt := 29) dX12_wayOf_22 (by decide) (fun q5 => ?_) (fun q6 => ?_)
    · refine z_iload_n dX12_wayOf_29 rfl ?_
      refine z_iconst dX12_wayOf_30 ⟨by decide, by decide⟩ ?_
      refine z_ixor dX12_wayOf_31 ((h.2.2 q2).2.1 q5).1.1 ((h.2.2 q2).2.1 q5).1.2 ?_
      exact z_ireturn dX12_wayOf_32 rfl rfl ⟨_, rfl, ((h.2.2 q2).2.1 q5).2⟩
    · refine z_iload_n dX12_wayOf_25 rfl ?_
      refine z_goto (tgt := 32) dX12_wayOf_26 (by decide) ?_
      exact z_ireturn dX12_wayOf_32 rfl rfl ⟨_, rfl, ((h.2.2 q2).2.2 q6)⟩
set_option maxRecDepth 20000 in
theorem V_X12_cubeAt {a b c : Int}  {μ : z_Mem} {d : Nat} {K : Int → z_Mem → Prop} (h : z_I (3 * a) ∧ (z_I (1 + (3 * a)) ∧ (((0 : Int) ≤ 1 + (3 * a) ∧ 1 + (3 * a) < 143) ∧ ((¬ b = (-1) → ((0 : Int) ≤ b ∧ b < 6) ∧ (z_I ((μ 114 (1 + (3 * a))) + (z_S 3 b)) ∧ ((¬ c = (-1) → ((0 : Int) ≤ c ∧ c < 6) ∧ (z_I (((μ 114 (1 + (3 * a))) + (z_S 3 b)) + (z_S 3 c)) ∧ (z_ri m_X12_cubeAt 42 [some (2, 113), some (0, a), some (0, b), some (0, c), some (0, ((μ 114 (1 + (3 * a))) + (z_S 3 b)) + (z_S 3 c)), none, none, none] μ d K))) ∧ (c = (-1) → z_I (((μ 114 (1 + (3 * a))) + (z_S 3 b)) + 0) ∧ (z_ri m_X12_cubeAt 42 [some (2, 113), some (0, a), some (0, b), some (0, c), some (0, ((μ 114 (1 + (3 * a))) + (z_S 3 b)) + 0), none, none, none] μ d K))))) ∧ (b = (-1) → z_I ((μ 114 (1 + (3 * a))) + 0) ∧ ((¬ c = (-1) → ((0 : Int) ≤ c ∧ c < 6) ∧ (z_I (((μ 114 (1 + (3 * a))) + 0) + (z_S 3 c)) ∧ (z_ri m_X12_cubeAt 42 [some (2, 113), some (0, a), some (0, b), some (0, c), some (0, ((μ 114 (1 + (3 * a))) + 0) + (z_S 3 c)), none, none, none] μ d K))) ∧ (c = (-1) → z_I (((μ 114 (1 + (3 * a))) + 0) + 0) ∧ (z_ri m_X12_cubeAt 42 [some (2, 113), some (0, a), some (0, b), some (0, c), some (0, ((μ 114 (1 + (3 * a))) + 0) + 0), none, none, none] μ d K)))))))) : z_ci m_X12_cubeAt [(2, 113), (0, a), (0, b), (0, c)] μ d K := by
  show z_R m_X12_cubeAt 0 [some (2, 113), some (0, a), some (0, b), some (0, c), none, none, none, none] [] z_n μ d _
  refine z_aload_n dX12_cubeAt_0 rfl ?_
  refine n_getp (ji := 0) dX12_cubeAt_1 zf_X12_9 k_113 rfl (by decide) rfl p_113_0 ?_
  refine z_iconst dX12_cubeAt_4 ⟨by decide, by decide⟩ ?_
  refine z_iconst dX12_cubeAt_5 ⟨by decide, by decide⟩ ?_
  refine z_iload_n dX12_cubeAt_6 rfl ?_
  refine z_imul dX12_cubeAt_7 h.1 ?_
  refine z_iadd dX12_cubeAt_8 h.2.1 ?_
  refine n_iald dX12_cubeAt_9 k_114 h.2.2.1 ?_
  refine z_iload_n dX12_cubeAt_10 rfl ?_
  refine z_iconst dX12_cubeAt_11 ⟨by decide, by decide⟩ ?_
  refine z_icmp_ne (tgt := 19) dX12_cubeAt_12 (by decide) (fun q1 => ?_) (fun q2 => ?_)
  · refine n_gets (j := 3) (oj := 1004) dX12_cubeAt_19 rfl zq_1438 (by decide) ?_
    refine z_iload_n dX12_cubeAt_22 rfl ?_
    refine n_sald (j := 3) (L := 6) dX12_cubeAt_23 rfl (by decide) (by decide) (h.2.2.2.1 q1).1 ?_
    refine z_iadd dX12_cubeAt_24 (h.2.2.2.1 q1).2.1 ?_
    refine z_iload_n dX12_cubeAt_25 rfl ?_
    refine z_iconst dX12_cubeAt_26 ⟨by decide, by decide⟩ ?_
    refine z_icmp_ne (tgt := 34) dX12_cubeAt_27 (by decide) (fun q3 => ?_) (fun q4 => ?_)
    · refine n_gets (j := 3) (oj := 1004) dX12_cubeAt_34 rfl zq_1438 (by decide) ?_
      refine z_iload_n dX12_cubeAt_37 rfl ?_
      refine n_sald (j := 3) (L := 6) dX12_cubeAt_38 rfl (by decide) (by decide) ((h.2.2.2.1 q1).2.2.1 q3).1 ?_
      refine z_iadd dX12_cubeAt_39 ((h.2.2.2.1 q1).2.2.1 q3).2.1 ?_
      refine n_istore (lo' := [some (2, 113), some (0, a), some (0, b), some (0, c), some (0, ((μ 114 (1 + (3 * a))) + (z_S 3 b)) + (z_S 3 c)), none, none, none]) dX12_cubeAt_40 ⟨Nat.le_of_ble_eq_true rfl, Nat.le_of_ble_eq_true rfl⟩ rfl ?_
      refine z_drop [some (2, 113), some (0, a), some (0, b), some (0, c), some (0, ((μ 114 (1 + (3 * a))) + (z_S 3 b)) + (z_S 3 c)), none, none, none] ⟨rfl, rfl, rfl, rfl, rfl, trivial⟩ ?_
      exact ((h.2.2.2.1 q1).2.2.1 q3).2.2
    · refine z_iconst dX12_cubeAt_30 ⟨by decide, by decide⟩ ?_
      refine z_goto (tgt := 39) dX12_cubeAt_31 (by decide) ?_
      refine z_iadd dX12_cubeAt_39 ((h.2.2.2.1 q1).2.2.2 q4).1 ?_
      refine n_istore (lo' := [some (2, 113), some (0, a), some (0, b), some (0, c), some (0, ((μ 114 (1 + (3 * a))) + (z_S 3 b)) + 0), none, none, none]) dX12_cubeAt_40 ⟨Nat.le_of_ble_eq_true rfl, Nat.le_of_ble_eq_true rfl⟩ rfl ?_
      refine z_drop [some (2, 113), some (0, a), some (0, b), some (0, c), some (0, ((μ 114 (1 + (3 * a))) + (z_S 3 b)) + 0), none, none, none] ⟨rfl, rfl, rfl, rfl, rfl, trivial⟩ ?_
      exact ((h.2.2.2.1 q1).2.2.2 q4).2
  · refine z_iconst dX12_cubeAt_15 ⟨by decide, by decide⟩ ?_
    refine z_goto (tgt := 24) dX12_cubeAt_16 (by decide) ?_
    refine z_iadd dX12_cubeAt_24 (h.2.2.2.2 q2).1 ?_
    refine z_iload_n dX12_cubeAt_25 rfl ?_
    refine z_iconst dX12_cubeAt_26 ⟨by decide, by decide⟩ ?_
    refine z_icmp_ne (tgt := 34) dX12_cubeAt_27 (by decide) (fun q5 => ?_) (fun q6 => ?_)
    · refine n_gets (j := 3) (oj := 1004) dX12_cubeAt_34 rfl zq_1438 (by decide) ?_
      refine z_iload_n dX12_cubeAt_37 rfl ?_
      refine n_sald (j := 3) (L := 6) dX12_cubeAt_38 rfl (by decide) (by decide) ((h.2.2.2.2 q2).2.1 q5).1 ?_
      refine z_iadd dX12_cubeAt_39 ((h.2.2.2.2 q2).2.1 q5).2.1 ?_
      refine n_istore (lo' := [some (2, 113), some (0, a), some (0, b), some (0, c), some (0, ((μ 114 (1 + (3 * a))) + 0) + (z_S 3 c)), none, none, none]) dX12_cubeAt_40 ⟨Nat.le_of_ble_eq_true rfl, Nat.le_of_ble_eq_true rfl⟩ rfl ?_
      refine z_drop [some (2, 113), some (0, a), some (0, b), some (0, c), some (0, ((μ 114 (1 + (3 * a))) + 0) + (z_S 3 c)), none, none, none] ⟨rfl, rfl, rfl, rfl, rfl, trivial⟩ ?_
      exact ((h.2.2.2.2 q2).2.1 q5).2.2
    · refine z_iconst dX12_cubeAt_30 ⟨by decide, by decide⟩ ?_
      refine z_goto (tgt := 39) dX12_cubeAt_31 (by decide) ?_
      refine z_iadd dX12_cubeAt_39 ((h.2.2.2.2 q2).2.2 q6).1 ?_
      refine n_istore (lo' := [some (2, 113), some (0, a), some (0, b), some (0, c), some (0, ((μ 114 (1 + (3 * a))) + 0) + 0), none, none, none]) dX12_cubeAt_40 ⟨Nat.le_of_ble_eq_true rfl, Nat.le_of_ble_eq_true rfl⟩ rfl ?_
      refine z_drop [some (2, 113), some (0, a), some (0, b), some (0, c), some (0, ((μ 114 (1 + (3 * a))) + 0) + 0), none, none, none] ⟨rfl, rfl, rfl, rfl, rfl, trivial⟩ ?_
      exact ((h.2.2.2.2 q2).2.2 q6).2
set_option maxRecDepth 20000 in
theorem V_X12_cubeAt_42 {v1 v2 v3 v4 : Int}  {μ : z_Mem} {d : Nat} {K : Int → z_Mem → Prop} (h : z_I (3 * v1) ∧ (z_I (1 + (3 * v1)) ∧ (z_I ((1 + (3 * v1)) + 1) ∧ (((0 : Int) ≤ (1 + (3 * v1)) + 1 ∧ (1 + (3 * v1)) + 1 < 143) ∧ ((¬ v2 = (-1) → ((0 : Int) ≤ v2 ∧ v2 < 6) ∧ (z_I ((μ 114 ((1 + (3 * v1)) + 1)) + (z_S 4 v2)) ∧ ((¬ v3 = (-1) → ((0 : Int) ≤ v3 ∧ v3 < 6) ∧ (z_I (((μ 114 ((1 + (3 * v1)) + 1)) + (z_S 4 v2)) + (z_S 4 v3)) ∧ (z_ri m_X12_cubeAt 86 [some (2, 113), some (0, v1), some (0, v2), some (0, v3), some (0, v4), some (0, ((μ 114 ((1 + (3 * v1)) + 1)) + (z_S 4 v2)) + (z_S 4 v3)), none, none] μ d K))) ∧ (v3 = (-1) → z_I (((μ 114 ((1 + (3 * v1)) + 1)) + (z_S 4 v2)) + 0) ∧ (z_ri m_X12_cubeAt 86 [some (2, 113), some (0, v1), some (0, v2), some (0, v3), some (0, v4), some (0, ((μ 114 ((1 + (3 * v1)) + 1)) + (z_S 4 v2)) + 0), none, none] μ d K))))) ∧ (v2 = (-1) → z_I ((μ 114 ((1 + (3 * v1)) + 1)) + 0) ∧ ((¬ v3 = (-1) → ((0 : Int) ≤ v3 ∧ v3 < 6) ∧ (z_I (((μ 114 ((1 + (3 * v1)) + 1)) + 0) + (z_S 4 v3)) ∧ (z_ri m_X12_cubeAt 86 [some (2, 113), some (0, v1), some (0, v2), some (0, v3), some (0, v4), some (0, ((μ 114 ((1 + (3 * v1)) + 1)) + 0) + (z_S 4 v3)), none, none] μ d K))) ∧ (v3 = (-1) → z_I (((μ 114 ((1 + (3 * v1)) + 1)) + 0) + 0) ∧ (z_ri m_X12_cubeAt 86 [some (2, 113), some (0, v1), some (0, v2), some (0, v3), some (0, v4), some (0, ((μ 114 ((1 + (3 * v1)) + 1)) + 0) + 0), none, none] μ d K))))))))) : z_ri m_X12_cubeAt 42 [some (2, 113), some (0, v1), some (0, v2), some (0, v3), some (0, v4), none, none, none] μ d K := by
  show z_R m_X12_cubeAt 42 [some (2, 113), some (0, v1), some (0, v2), some (0, v3), some (0, v4), none, none, none] [] z_n μ d _
  refine z_aload_n dX12_cubeAt_42 rfl ?_
  refine n_getp (ji := 0) dX12_cubeAt_43 zf_X12_9 k_113 rfl (by decide) rfl p_113_0 ?_
  refine z_iconst dX12_cubeAt_46 ⟨by decide, by decide⟩ ?_
  refine z_iconst dX12_cubeAt_47 ⟨by decide, by decide⟩ ?_
  refine z_iload_n dX12_cubeAt_48 rfl ?_
  refine z_imul dX12_cubeAt_49 h.1 ?_
  refine z_iadd dX12_cubeAt_50 h.2.1 ?_
  refine z_iconst dX12_cubeAt_51 ⟨by decide, by decide⟩ ?_
  refine z_iadd dX12_cubeAt_52 h.2.2.1 ?_
  refine n_iald dX12_cubeAt_53 k_114 h.2.2.2.1 ?_
  refine z_iload_n dX12_cubeAt_54 rfl ?_
  refine z_iconst dX12_cubeAt_55 ⟨by decide, by decide⟩ ?_
  refine z_icmp_ne (tgt := 63) dX12_cubeAt_56 (by decide) (fun q1 => ?_) (fun q2 => ?_)
  · refine n_gets (j := 4) (oj := 1005) dX12_cubeAt_63 rfl zq_1440 (by decide) ?_
    refine z_iload_n dX12_cubeAt_66 rfl ?_
    refine n_sald (j := 4) (L := 6) dX12_cubeAt_67 rfl (by decide) (by decide) (h.2.2.2.2.1 q1).1 ?_
    refine z_iadd dX12_cubeAt_68 (h.2.2.2.2.1 q1).2.1 ?_
    refine z_iload_n dX12_cubeAt_69 rfl ?_
    refine z_iconst dX12_cubeAt_70 ⟨by decide, by decide⟩ ?_
    refine z_icmp_ne (tgt := 78) dX12_cubeAt_71 (by decide) (fun q3 => ?_) (fun q4 => ?_)
    · refine n_gets (j := 4) (oj := 1005) dX12_cubeAt_78 rfl zq_1440 (by decide) ?_
      refine z_iload_n dX12_cubeAt_81 rfl ?_
      refine n_sald (j := 4) (L := 6) dX12_cubeAt_82 rfl (by decide) (by decide) ((h.2.2.2.2.1 q1).2.2.1 q3).1 ?_
      refine z_iadd dX12_cubeAt_83 ((h.2.2.2.2.1 q1).2.2.1 q3).2.1 ?_
      refine n_istore (lo' := [some (2, 113), some (0, v1), some (0, v2), some (0, v3), some (0, v4), some (0, ((μ 114 ((1 + (3 * v1)) + 1)) + (z_S 4 v2)) + (z_S 4 v3)), none, none]) dX12_cubeAt_84 ⟨Nat.le_of_ble_eq_true rfl, Nat.le_of_ble_eq_true rfl⟩ rfl ?_
      refine z_drop [some (2, 113), some (0, v1), some (0, v2), some (0, v3), some (0, v4), some (0, ((μ 114 ((1 + (3 * v1)) + 1)) + (z_S 4 v2)) + (z_S 4 v3)), none, none] ⟨rfl, rfl, rfl, rfl, rfl, rfl, trivial⟩ ?_
      exact ((h.2.2.2.2.1 q1).2.2.1 q3).2.2
    · refine z_iconst dX12_cubeAt_74 ⟨by decide, by decide⟩ ?_
      refine z_goto (tgt := 83) dX12_cubeAt_75 (by decide) ?_
      refine z_iadd dX12_cubeAt_83 ((h.2.2.2.2.1 q1).2.2.2 q4).1 ?_
      refine n_istore (lo' := [some (2, 113), some (0, v1), some (0, v2), some (0, v3), some (0, v4), some (0, ((μ 114 ((1 + (3 * v1)) + 1)) + (z_S 4 v2)) + 0), none, none]) dX12_cubeAt_84 ⟨Nat.le_of_ble_eq_true rfl, Nat.le_of_ble_eq_true rfl⟩ rfl ?_
      refine z_drop [some (2, 113), some (0, v1), some (0, v2), some (0, v3), some (0, v4), some (0, ((μ 114 ((1 + (3 * v1)) + 1)) + (z_S 4 v2)) + 0), none, none] ⟨rfl, rfl, rfl, rfl, rfl, rfl, trivial⟩ ?_
      exact ((h.2.2.2.2.1 q1).2.2.2 q4).2
  · refine z_iconst dX12_cubeAt_59 ⟨by decide, by decide⟩ ?_
    refine z_goto (tgt := 68) dX12_cubeAt_60 (by decide) ?_
    refine z_iadd dX12_cubeAt_68 (h.2.2.2.2.2 q2).1 ?_
    refine z_iload_n dX12_cubeAt_69 rfl ?_
    refine z_iconst dX12_cubeAt_70 ⟨by decide, by decide⟩ ?_
    refine z_icmp_ne (tgt := 78) dX12_cubeAt_71 (by decide) (fun q5 => ?_) (fun q6 => ?_)
    · refine n_gets (j := 4) (oj := 1005) dX12_cubeAt_78 rfl zq_1440 (by decide) ?_
      refine z_iload_n dX12_cubeAt_81 rfl ?_
      refine n_sald (j := 4) (L := 6) dX12_cubeAt_82 rfl (by decide) (by decide) ((h.2.2.2.2.2 q2).2.1 q5).1 ?_
      refine z_iadd dX12_cubeAt_83 ((h.2.2.2.2.2 q2).2.1 q5).2.1 ?_
      refine n_istore (lo' := [some (2, 113), some (0, v1), some (0, v2), some (0, v3), some (0, v4), some (0, ((μ 114 ((1 + (3 * v1)) + 1)) + 0) + (z_S 4 v3)), none, none]) dX12_cubeAt_84 ⟨Nat.le_of_ble_eq_true rfl, Nat.le_of_ble_eq_true rfl⟩ rfl ?_
      refine z_drop [some (2, 113), some (0, v1), some (0, v2), some (0, v3), some (0, v4), some (0, ((μ 114 ((1 + (3 * v1)) + 1)) + 0) + (z_S 4 v3)), none, none] ⟨rfl, rfl, rfl, rfl, rfl, rfl, trivial⟩ ?_
      exact ((h.2.2.2.2.2 q2).2.1 q5).2.2
    · refine z_iconst dX12_cubeAt_74 ⟨by decide, by decide⟩ ?_
      refine z_goto (tgt := 83) dX12_cubeAt_75 (by decide) ?_
      refine z_iadd dX12_cubeAt_83 ((h.2.2.2.2.2 q2).2.2 q6).1 ?_
      refine n_istore (lo' := [some (2, 113), some (0, v1), some (0, v2), some (0, v3), some (0, v4), some (0, ((μ 114 ((1 + (3 * v1)) + 1)) + 0) + 0), none, none]) dX12_cubeAt_84 ⟨Nat.le_of_ble_eq_true rfl, Nat.le_of_ble_eq_true rfl⟩ rfl ?_
      refine z_drop [some (2, 113), some (0, v1), some (0, v2), some (0, v3), some (0, v4), some (0, ((μ 114 ((1 + (3 * v1)) + 1)) + 0) + 0), none, none] ⟨rfl, rfl, rfl, rfl, rfl, rfl, trivial⟩ ?_
      exact ((h.2.2.2.2.2 q2).2.2 q6).2
set_option maxRecDepth 20000 in
theorem V_X12_cubeAt_86 {v1 v2 v3 v4 v5 : Int}  {μ : z_Mem} {d : Nat} {K : Int → z_Mem → Prop} (h : z_I (3 * v1) ∧ (z_I (1 + (3 * v1)) ∧ (z_I ((1 + (3 * v1)) + 2) ∧ (((0 : Int) ≤ (1 + (3 * v1)) + 2 ∧ (1 + (3 * v1)) + 2 < 143) ∧ ((¬ v2 = (-1) → ((0 : Int) ≤ v2 ∧ v2 < 6) ∧ (z_I ((μ 114 ((1 + (3 * v1)) + 2)) + (z_S 5 v2)) ∧ ((¬ v3 = (-1) → ((0 : Int) ≤ v3 ∧ v3 < 6) ∧ (z_I (((μ 114 ((1 + (3 * v1)) + 2)) + (z_S 5 v2)) + (z_S 5 v3)) ∧ (z_ri m_X12_cubeAt 130 [some (2, 113), none, none, none, some (0, v4), some (0, v5), some (0, ((μ 114 ((1 + (3 * v1)) + 2)) + (z_S 5 v2)) + (z_S 5 v3)), none] μ d K))) ∧ (v3 = (-1) → z_I (((μ 114 ((1 + (3 * v1)) + 2)) + (z_S 5 v2)) + 0) ∧ (z_ri m_X12_cubeAt 130 [some (2, 113), none, none, none, some (0, v4), some (0, v5), some (0, ((μ 114 ((1 + (3 * v1)) + 2)) + (z_S 5 v2)) + 0), none] μ d K))))) ∧ (v2 = (-1) → z_I ((μ 114 ((1 + (3 * v1)) + 2)) + 0) ∧ ((¬ v3 = (-1) → ((0 : Int) ≤ v3 ∧ v3 < 6) ∧ (z_I (((μ 114 ((1 + (3 * v1)) + 2)) + 0) + (z_S 5 v3)) ∧ (z_ri m_X12_cubeAt 130 [some (2, 113), none, none, none, some (0, v4), some (0, v5), some (0, ((μ 114 ((1 + (3 * v1)) + 2)) + 0) + (z_S 5 v3)), none] μ d K))) ∧ (v3 = (-1) → z_I (((μ 114 ((1 + (3 * v1)) + 2)) + 0) + 0) ∧ (z_ri m_X12_cubeAt 130 [some (2, 113), none, none, none, some (0, v4), some (0, v5), some (0, ((μ 114 ((1 + (3 * v1)) + 2)) + 0) + 0), none] μ d K))))))))) : z_ri m_X12_cubeAt 86 [some (2, 113), some (0, v1), some (0, v2), some (0, v3), some (0, v4), some (0, v5), none, none] μ d K := by
  show z_R m_X12_cubeAt 86 [some (2, 113), some (0, v1), some (0, v2), some (0, v3), some (0, v4), some (0, v5), none, none] [] z_n μ d _
  refine z_aload_n dX12_cubeAt_86 rfl ?_
  refine n_getp (ji := 0) dX12_cubeAt_87 zf_X12_9 k_113 rfl (by decide) rfl p_113_0 ?_
  refine z_iconst dX12_cubeAt_90 ⟨by decide, by decide⟩ ?_
  refine z_iconst dX12_cubeAt_91 ⟨by decide, by decide⟩ ?_
  refine z_iload_n dX12_cubeAt_92 rfl ?_
  refine z_imul dX12_cubeAt_93 h.1 ?_
  refine z_iadd dX12_cubeAt_94 h.2.1 ?_
  refine z_iconst dX12_cubeAt_95 ⟨by decide, by decide⟩ ?_
  refine z_iadd dX12_cubeAt_96 h.2.2.1 ?_
  refine n_iald dX12_cubeAt_97 k_114 h.2.2.2.1 ?_
  refine z_iload_n dX12_cubeAt_98 rfl ?_
  refine z_iconst dX12_cubeAt_99 ⟨by decide, by decide⟩ ?_
  refine z_icmp_ne (tgt := 107) dX12_cubeAt_100 (by decide) (fun q1 => ?_) (fun q2 => ?_)
  · refine n_gets (j := 5) (oj := 1006) dX12_cubeAt_107 rfl zq_1442 (by decide) ?_
    refine z_iload_n dX12_cubeAt_110 rfl ?_
    refine n_sald (j := 5) (L := 6) dX12_cubeAt_111 rfl (by decide) (by decide) (h.2.2.2.2.1 q1).1 ?_
    refine z_iadd dX12_cubeAt_112 (h.2.2.2.2.1 q1).2.1 ?_
    refine z_iload_n dX12_cubeAt_113 rfl ?_
    refine z_iconst dX12_cubeAt_114 ⟨by decide, by decide⟩ ?_
    refine z_icmp_ne (tgt := 122) dX12_cubeAt_115 (by decide) (fun q3 => ?_) (fun q4 => ?_)
    · refine n_gets (j := 5) (oj := 1006) dX12_cubeAt_122 rfl zq_1442 (by decide) ?_
      refine z_iload_n dX12_cubeAt_125 rfl ?_
      refine n_sald (j := 5) (L := 6) dX12_cubeAt_126 rfl (by decide) (by decide) ((h.2.2.2.2.1 q1).2.2.1 q3).1 ?_
      refine z_iadd dX12_cubeAt_127 ((h.2.2.2.2.1 q1).2.2.1 q3).2.1 ?_
      refine n_istore (lo' := [some (2, 113), some (0, v1), some (0, v2), some (0, v3), some (0, v4), some (0, v5), some (0, ((μ 114 ((1 + (3 * v1)) + 2)) + (z_S 5 v2)) + (z_S 5 v3)), none]) dX12_cubeAt_128 ⟨Nat.le_of_ble_eq_true rfl, Nat.le_of_ble_eq_true rfl⟩ rfl ?_
      refine z_drop [some (2, 113), none, none, none, some (0, v4), some (0, v5), some (0, ((μ 114 ((1 + (3 * v1)) + 2)) + (z_S 5 v2)) + (z_S 5 v3)), none] ⟨rfl, rfl, rfl, rfl, trivial⟩ ?_
      exact ((h.2.2.2.2.1 q1).2.2.1 q3).2.2
    · refine z_iconst dX12_cubeAt_118 ⟨by decide, by decide⟩ ?_
      refine z_goto (tgt := 127) dX12_cubeAt_119 (by decide) ?_
      refine z_iadd dX12_cubeAt_127 ((h.2.2.2.2.1 q1).2.2.2 q4).1 ?_
      refine n_istore (lo' := [some (2, 113), some (0, v1), some (0, v2), some (0, v3), some (0, v4), some (0, v5), some (0, ((μ 114 ((1 + (3 * v1)) + 2)) + (z_S 5 v2)) + 0), none]) dX12_cubeAt_128 ⟨Nat.le_of_ble_eq_true rfl, Nat.le_of_ble_eq_true rfl⟩ rfl ?_
      refine z_drop [some (2, 113), none, none, none, some (0, v4), some (0, v5), some (0, ((μ 114 ((1 + (3 * v1)) + 2)) + (z_S 5 v2)) + 0), none] ⟨rfl, rfl, rfl, rfl, trivial⟩ ?_
      exact ((h.2.2.2.2.1 q1).2.2.2 q4).2
  · refine z_iconst dX12_cubeAt_103 ⟨by decide, by decide⟩ ?_
    refine z_goto (tgt := 112) dX12_cubeAt_104 (by decide) ?_
    refine z_iadd dX12_cubeAt_112 (h.2.2.2.2.2 q2).1 ?_
    refine z_iload_n dX12_cubeAt_113 rfl ?_
    refine z_iconst dX12_cubeAt_114 ⟨by decide, by decide⟩ ?_
    refine z_icmp_ne (tgt := 122) dX12_cubeAt_115 (by decide) (fun q5 => ?_) (fun q6 => ?_)
    · refine n_gets (j := 5) (oj := 1006) dX12_cubeAt_122 rfl zq_1442 (by decide) ?_
      refine z_iload_n dX12_cubeAt_125 rfl ?_
      refine n_sald (j := 5) (L := 6) dX12_cubeAt_126 rfl (by decide) (by decide) ((h.2.2.2.2.2 q2).2.1 q5).1 ?_
      refine z_iadd dX12_cubeAt_127 ((h.2.2.2.2.2 q2).2.1 q5).2.1 ?_
      refine n_istore (lo' := [some (2, 113), some (0, v1), some (0, v2), some (0, v3), some (0, v4), some (0, v5), some (0, ((μ 114 ((1 + (3 * v1)) + 2)) + 0) + (z_S 5 v3)), none]) dX12_cubeAt_128 ⟨Nat.le_of_ble_eq_true rfl, Nat.le_of_ble_eq_true rfl⟩ rfl ?_
      refine z_drop [some (2, 113), none, none, none, some (0, v4), some (0, v5), some (0, ((μ 114 ((1 + (3 * v1)) + 2)) + 0) + (z_S 5 v3)), none] ⟨rfl, rfl, rfl, rfl, trivial⟩ ?_
      exact ((h.2.2.2.2.2 q2).2.1 q5).2.2
    · refine z_iconst dX12_cubeAt_118 ⟨by decide, by decide⟩ ?_
      refine z_goto (tgt := 127) dX12_cubeAt_119 (by decide) ?_
      refine z_iadd dX12_cubeAt_127 ((h.2.2.2.2.2 q2).2.2 q6).1 ?_
      refine n_istore (lo' := [some (2, 113), some (0, v1), some (0, v2), some (0, v3), some (0, v4), some (0, v5), some (0, ((μ 114 ((1 + (3 * v1)) + 2)) + 0) + 0), none]) dX12_cubeAt_128 ⟨Nat.le_of_ble_eq_true rfl, Nat.le_of_ble_eq_true rfl⟩ rfl ?_
      refine z_drop [some (2, 113), none, none, none, some (0, v4), some (0, v5), some (0, ((μ 114 ((1 + (3 * v1)) + 2)) + 0) + 0), none] ⟨rfl, rfl, rfl, rfl, trivial⟩ ?_
      exact ((h.2.2.2.2.2 q2).2.2 q6).2
set_option maxRecDepth 20000 in
theorem V_X12_cubeAt_130 {v4 v5 v6 : Int}  {μ : z_Mem} {d : Nat} {K : Int → z_Mem → Prop} (h : z_ri m_X12_cubeAt 133 [some (2, 113), none, none, none, some (0, v4), some (0, v5), some (0, v6), some (0, 0)] μ d K) : z_ri m_X12_cubeAt 130 [some (2, 113), none, none, none, some (0, v4), some (0, v5), some (0, v6), none] μ d K := by
  show z_R m_X12_cubeAt 130 [some (2, 113), none, none, none, some (0, v4), some (0, v5), some (0, v6), none] [] z_n μ d _
  refine z_iconst dX12_cubeAt_130 ⟨by decide, by decide⟩ ?_
  refine n_istore (lo' := [some (2, 113), none, none, none, some (0, v4), some (0, v5), some (0, v6), some (0, 0)]) dX12_cubeAt_131 ⟨Nat.le_of_ble_eq_true rfl, Nat.le_of_ble_eq_true rfl⟩ rfl ?_
  refine z_drop [some (2, 113), none, none, none, some (0, v4), some (0, v5), some (0, v6), some (0, 0)] ⟨rfl, rfl, rfl, rfl, rfl, trivial⟩ ?_
  exact h
set_option maxRecDepth 20000 in
theorem V_X12_cubeAt_133 {v4 v5 v6 v7 : Int}  {μ : z_Mem} {d : Nat} {K : Int → z_Mem → Prop} (h : (μ 114 0 ≤ v7 → K (-1) μ) ∧ (v7 < μ 114 0 → z_I (3 * v7) ∧ (z_I (1 + (3 * v7)) ∧ (((0 : Int) ≤ 1 + (3 * v7) ∧ 1 + (3 * v7) < 143) ∧ ((¬ μ 114 (1 + (3 * v7)) = v4 → z_I (v7 + 1) ∧ (z_ri m_X12_cubeAt 133 [some (2, 113), none, none, none, some (0, v4), some (0, v5), some (0, v6), some (0, v7 + 1)] μ d K)) ∧ (μ 114 (1 + (3 * v7)) = v4 → z_I (3 * v7) ∧ (z_I (1 + (3 * v7)) ∧ (z_I ((1 + (3 * v7)) + 1) ∧ (((0 : Int) ≤ (1 + (3 * v7)) + 1 ∧ (1 + (3 * v7)) + 1 < 143) ∧ ((¬ μ 114 ((1 + (3 * v7)) + 1) = v5 → z_I (v7 + 1) ∧ (z_ri m_X12_cubeAt 133 [some (2, 113), none, none, none, some (0, v4), some (0, v5), some (0, v6), some (0, v7 + 1)] μ d K)) ∧ (μ 114 ((1 + (3 * v7)) + 1) = v5 → z_I (3 * v7) ∧ (z_I (1 + (3 * v7)) ∧ (z_I ((1 + (3 * v7)) + 2) ∧ (((0 : Int) ≤ (1 + (3 * v7)) + 2 ∧ (1 + (3 * v7)) + 2 < 143) ∧ ((¬ μ 114 ((1 + (3 * v7)) + 2) = v6 → z_I (v7 + 1) ∧ (z_ri m_X12_cubeAt 133 [some (2, 113), none, none, none, some (0, v4), some (0, v5), some (0, v6), some (0, v7 + 1)] μ d K)) ∧ (μ 114 ((1 + (3 * v7)) + 2) = v6 → K v7 μ)))))))))))))))) : z_ri m_X12_cubeAt 133 [some (2, 113), none, none, none, some (0, v4), some (0, v5), some (0, v6), some (0, v7)] μ d K := by
  show z_R m_X12_cubeAt 133 [some (2, 113), none, none, none, some (0, v4), some (0, v5), some (0, v6), some (0, v7)] [] z_n μ d _
  refine z_iload dX12_cubeAt_133 rfl ?_
  refine z_aload_n dX12_cubeAt_135 rfl ?_
  refine n_getp (ji := 0) dX12_cubeAt_136 zf_X12_9 k_113 rfl (by decide) rfl p_113_0 ?_
  refine z_iconst dX12_cubeAt_139 ⟨by decide, by decide⟩ ?_
  refine n_iald dX12_cubeAt_140 k_114 (by decide) ?_
  refine z_icmp_ge (tgt := 205) dX12_cubeAt_141 (by decide) (fun q1 => ?_) (fun q2 => ?_)
  · refine z_iconst dX12_cubeAt_205 ⟨by decide, by decide⟩ ?_
    exact z_ireturn dX12_cubeAt_206 rfl rfl ⟨_, rfl, (h.1 q1)⟩
  · refine z_aload_n dX12_cubeAt_144 rfl ?_
    refine n_getp (ji := 0) dX12_cubeAt_145 zf_X12_9 k_113 rfl (by decide) rfl p_113_0 ?_
    refine z_iconst dX12_cubeAt_148 ⟨by decide, by decide⟩ ?_
    refine z_iconst dX12_cubeAt_149 ⟨by decide, by decide⟩ ?_
    refine z_iload dX12_cubeAt_150 rfl ?_
    refine z_imul dX12_cubeAt_152 (h.2 q2).1 ?_
    refine z_iadd dX12_cubeAt_153 (h.2 q2).2.1 ?_
    refine n_iald dX12_cubeAt_154 k_114 (h.2 q2).2.2.1 ?_
    refine z_iload dX12_cubeAt_155 rfl ?_
    refine z_icmp_ne (tgt := 199) dX12_cubeAt_157 (by decide) (fun q3 => ?_) (fun q4 => ?_)
    · refine n_iinc (lo' := [some (2, 113), none, none, none, some (0, v4), some (0, v5), some (0, v6), some (0, v7 + 1)]) dX12_cubeAt_199 rfl (by decide) ((h.2 q2).2.2.2.1 q3).1 rfl ?_
      refine z_goto (tgt := 133) dX12_cubeAt_202 (by decide) ?_
      refine z_drop [some (2, 113), none, none, none, some (0, v4), some (0, v5), some (0, v6), some (0, v7 + 1)] ⟨rfl, rfl, rfl, rfl, rfl, trivial⟩ ?_
      exact ((h.2 q2).2.2.2.1 q3).2
    · refine z_aload_n dX12_cubeAt_160 rfl ?_
      refine n_getp (ji := 0) dX12_cubeAt_161 zf_X12_9 k_113 rfl (by decide) rfl p_113_0 ?_
      refine z_iconst dX12_cubeAt_164 ⟨by decide, by decide⟩ ?_
      refine z_iconst dX12_cubeAt_165 ⟨by decide, by decide⟩ ?_
      refine z_iload dX12_cubeAt_166 rfl ?_
      refine z_imul dX12_cubeAt_168 ((h.2 q2).2.2.2.2 q4).1 ?_
      refine z_iadd dX12_cubeAt_169 ((h.2 q2).2.2.2.2 q4).2.1 ?_
      refine z_iconst dX12_cubeAt_170 ⟨by decide, by decide⟩ ?_
      refine z_iadd dX12_cubeAt_171 ((h.2 q2).2.2.2.2 q4).2.2.1 ?_
      refine n_iald dX12_cubeAt_172 k_114 ((h.2 q2).2.2.2.2 q4).2.2.2.1 ?_
      refine z_iload dX12_cubeAt_173 rfl ?_
      refine z_icmp_ne (tgt := 199) dX12_cubeAt_175 (by decide) (fun q5 => ?_) (fun q6 => ?_)
      · refine n_iinc (lo' := [some (2, 113), none, none, none, some (0, v4), some (0, v5), some (0, v6), some (0, v7 + 1)]) dX12_cubeAt_199 rfl (by decide) (((h.2 q2).2.2.2.2 q4).2.2.2.2.1 q5).1 rfl ?_
        refine z_goto (tgt := 133) dX12_cubeAt_202 (by decide) ?_
        refine z_drop [some (2, 113), none, none, none, some (0, v4), some (0, v5), some (0, v6), some (0, v7 + 1)] ⟨rfl, rfl, rfl, rfl, rfl, trivial⟩ ?_
        exact (((h.2 q2).2.2.2.2 q4).2.2.2.2.1 q5).2
      · refine z_aload_n dX12_cubeAt_178 rfl ?_
        refine n_getp (ji := 0) dX12_cubeAt_179 zf_X12_9 k_113 rfl (by decide) rfl p_113_0 ?_
        refine z_iconst dX12_cubeAt_182 ⟨by decide, by decide⟩ ?_
        refine z_iconst dX12_cubeAt_183 ⟨by decide, by decide⟩ ?_
        refine z_iload dX12_cubeAt_184 rfl ?_
        refine z_imul dX12_cubeAt_186 (((h.2 q2).2.2.2.2 q4).2.2.2.2.2 q6).1 ?_
        refine z_iadd dX12_cubeAt_187 (((h.2 q2).2.2.2.2 q4).2.2.2.2.2 q6).2.1 ?_
        refine z_iconst dX12_cubeAt_188 ⟨by decide, by decide⟩ ?_
        refine z_iadd dX12_cubeAt_189 (((h.2 q2).2.2.2.2 q4).2.2.2.2.2 q6).2.2.1 ?_
        refine n_iald dX12_cubeAt_190 k_114 (((h.2 q2).2.2.2.2 q4).2.2.2.2.2 q6).2.2.2.1 ?_
        refine z_iload dX12_cubeAt_191 rfl ?_
        refine z_icmp_ne (tgt := 199) dX12_cubeAt_193 (by decide) (fun q7 => ?_) (fun q8 => ?_)
        · refine n_iinc (lo' := [some (2, 113), none, none, none, some (0, v4), some (0, v5), some (0, v6), some (0, v7 + 1)]) dX12_cubeAt_199 rfl (by decide) ((((h.2 q2).2.2.2.2 q4).2.2.2.2.2 q6).2.2.2.2.1 q7).1 rfl ?_
          refine z_goto (tgt := 133) dX12_cubeAt_202 (by decide) ?_
          refine z_drop [some (2, 113), none, none, none, some (0, v4), some (0, v5), some (0, v6), some (0, v7 + 1)] ⟨rfl, rfl, rfl, rfl, rfl, trivial⟩ ?_
          exact ((((h.2 q2).2.2.2.2 q4).2.2.2.2.2 q6).2.2.2.2.1 q7).2
        · refine z_iload dX12_cubeAt_196 rfl ?_
          exact z_ireturn dX12_cubeAt_198 rfl rfl ⟨_, rfl, ((((h.2 q2).2.2.2.2 q4).2.2.2.2.2 q6).2.2.2.2.2 q8)⟩
set_option maxRecDepth 20000 in
theorem V_X12_faceOf {a b : Int}  {μ : z_Mem} {d : Nat} {K : Int → z_Mem → Prop} (h : z_ri m_X12_faceOf 2 [some (2, 113), some (0, a), some (0, b), some (0, 0)] μ d K) : z_ci m_X12_faceOf [(2, 113), (0, a), (0, b)] μ d K := by
  show z_R m_X12_faceOf 0 [some (2, 113), some (0, a), some (0, b), none] [] z_n μ d _
  refine z_iconst dX12_faceOf_0 ⟨by decide, by decide⟩ ?_
  refine n_istore_n (lo' := [some (2, 113), some (0, a), some (0, b), some (0, 0)]) dX12_faceOf_1 ⟨Nat.le_of_ble_eq_true rfl, Nat.le_of_ble_eq_true rfl⟩ rfl ?_
  refine z_drop [some (2, 113), some (0, a), some (0, b), some (0, 0)] ⟨rfl, rfl, rfl, rfl, trivial⟩ ?_
  exact h
set_option maxRecDepth 20000 in
theorem V_X12_faceOf_2 {v1 v2 v3 : Int}  {μ : z_Mem} {d : Nat} {K : Int → z_Mem → Prop} (h : (μ 113 21 ≤ v3 → K (-1) μ) ∧ (v3 < μ 113 21 → ((0 : Int) ≤ v3 ∧ v3 < 30) ∧ ((¬ μ 121 v3 = v1 → z_I (v3 + 1) ∧ (z_ri m_X12_faceOf 2 [some (2, 113), some (0, v1), some (0, v2), some (0, v3 + 1)] μ d K)) ∧ (μ 121 v3 = v1 → ((0 : Int) ≤ v3 ∧ v3 < 30) ∧ ((¬ μ 122 v3 = v2 → z_I (v3 + 1) ∧ (z_ri m_X12_faceOf 2 [some (2, 113), some (0, v1), some (0, v2), some (0, v3 + 1)] μ d K)) ∧ (μ 122 v3 = v2 → K v3 μ)))))) : z_ri m_X12_faceOf 2 [some (2, 113), some (0, v1), some (0, v2), some (0, v3)] μ d K := by
  show z_R m_X12_faceOf 2 [some (2, 113), some (0, v1), some (0, v2), some (0, v3)] [] z_n μ d _
  refine z_iload_n dX12_faceOf_2 rfl ?_
  refine z_aload_n dX12_faceOf_3 rfl ?_
  refine n_getf (ji := 21) (t := 0) dX12_faceOf_4 zf_X12_205 k_113 rfl (by decide) rfl ?_
  refine z_icmp_ge (tgt := 38) dX12_faceOf_7 (by decide) (fun q1 => ?_) (fun q2 => ?_)
  · refine z_iconst dX12_faceOf_38 ⟨by decide, by decide⟩ ?_
    exact z_ireturn dX12_faceOf_39 rfl rfl ⟨_, rfl, (h.1 q1)⟩
  · refine z_aload_n dX12_faceOf_10 rfl ?_
    refine n_getp (ji := 12) dX12_faceOf_11 zf_X12_33 k_113 rfl (by decide) rfl p_113_12 ?_
    refine z_iload_n dX12_faceOf_14 rfl ?_
    refine n_iald dX12_faceOf_15 k_121 (h.2 q2).1 ?_
    refine z_iload_n dX12_faceOf_16 rfl ?_
    refine z_icmp_ne (tgt := 32) dX12_faceOf_17 (by decide) (fun q3 => ?_) (fun q4 => ?_)
    · refine n_iinc (lo' := [some (2, 113), some (0, v1), some (0, v2), some (0, v3 + 1)]) dX12_faceOf_32 rfl (by decide) ((h.2 q2).2.1 q3).1 rfl ?_
      refine z_goto (tgt := 2) dX12_faceOf_35 (by decide) ?_
      refine z_drop [some (2, 113), some (0, v1), some (0, v2), some (0, v3 + 1)] ⟨rfl, rfl, rfl, rfl, trivial⟩ ?_
      exact ((h.2 q2).2.1 q3).2
    · refine z_aload_n dX12_faceOf_20 rfl ?_
      refine n_getp (ji := 13) dX12_faceOf_21 zf_X12_36 k_113 rfl (by decide) rfl p_113_13 ?_
      refine z_iload_n dX12_faceOf_24 rfl ?_
      refine n_iald dX12_faceOf_25 k_122 ((h.2 q2).2.2 q4).1 ?_
      refine z_iload_n dX12_faceOf_26 rfl ?_
      refine z_icmp_ne (tgt := 32) dX12_faceOf_27 (by decide) (fun q5 => ?_) (fun q6 => ?_)
      · refine n_iinc (lo' := [some (2, 113), some (0, v1), some (0, v2), some (0, v3 + 1)]) dX12_faceOf_32 rfl (by decide) (((h.2 q2).2.2 q4).2.1 q5).1 rfl ?_
        refine z_goto (tgt := 2) dX12_faceOf_35 (by decide) ?_
        refine z_drop [some (2, 113), some (0, v1), some (0, v2), some (0, v3 + 1)] ⟨rfl, rfl, rfl, rfl, trivial⟩ ?_
        exact (((h.2 q2).2.2 q4).2.1 q5).2
      · refine z_iload_n dX12_faceOf_30 rfl ?_
        exact z_ireturn dX12_faceOf_31 rfl rfl ⟨_, rfl, (((h.2 q2).2.2 q4).2.2 q6)⟩
set_option maxRecDepth 20000 in
theorem V_X12_sideTo {a b : Int}  {μ : z_Mem} {d : Nat} {K : Int → z_Mem → Prop} (h : z_ri m_X12_sideTo 2 [some (0, a), some (0, b), some (0, 0)] μ (d + 1) K) : z_ci m_X12_sideTo [(0, a), (0, b)] μ (d + 1) K := by
  show z_R m_X12_sideTo 0 [some (0, a), some (0, b), none] [] z_n μ (d + 1) _
  refine z_iconst dX12_sideTo_0 ⟨by decide, by decide⟩ ?_
  refine n_istore_n (lo' := [some (0, a), some (0, b), some (0, 0)]) dX12_sideTo_1 ⟨Nat.le_of_ble_eq_true rfl, Nat.le_of_ble_eq_true rfl⟩ rfl ?_
  refine z_drop [some (0, a), some (0, b), some (0, 0)] ⟨rfl, rfl, rfl, trivial⟩ ?_
  exact h
set_option maxRecDepth 20000 in
theorem V_X12_sideTo_2 {v0 v1 v2 : Int}  {μ : z_Mem} {d : Nat} {K : Int → z_Mem → Prop} (h : (4 ≤ v2 → K (-1) μ) ∧ (v2 < 4 → z_ci m_X12_wayOf [(0, v0), (0, v2)] μ d (fun x5 m3 => (¬ x5 = v1 → z_I (v2 + 1) ∧ (z_ri m_X12_sideTo 2 [some (0, v0), some (0, v1), some (0, v2 + 1)] m3 (d + 1) K)) ∧ (x5 = v1 → K v2 m3)))) : z_ri m_X12_sideTo 2 [some (0, v0), some (0, v1), some (0, v2)] μ (d + 1) K := by
  show z_R m_X12_sideTo 2 [some (0, v0), some (0, v1), some (0, v2)] [] z_n μ (d + 1) _
  refine z_iload_n dX12_sideTo_2 rfl ?_
  refine z_iconst dX12_sideTo_3 ⟨by decide, by decide⟩ ?_
  refine z_icmp_ge (tgt := 24) dX12_sideTo_4 (by decide) (fun q1 => ?_) (fun q2 => ?_)
  · refine z_iconst dX12_sideTo_24 ⟨by decide, by decide⟩ ?_
    exact z_ireturn dX12_sideTo_25 rfl rfl ⟨_, rfl, (h.1 q1)⟩
  · refine z_iload_n dX12_sideTo_7 rfl ?_
    refine z_iload_n dX12_sideTo_8 rfl ?_
    refine n_sI (as := [(0, v0), (0, v2)]) (rest := []) dX12_sideTo_9 zm_X12_wayOf zs_X12_223 rfl rfl (Nat.le_of_ble_eq_true rfl) (Nat.le_of_ble_eq_true rfl) (h.2 q2) (fun x5 m3 h4 => ?_)
    refine z_iload_n dX12_sideTo_12 rfl ?_
    refine z_icmp_ne (tgt := 18) dX12_sideTo_13 (by decide) (fun q6 => ?_) (fun q7 => ?_)
    · refine n_iinc (lo' := [some (0, v0), some (0, v1), some (0, v2 + 1)]) dX12_sideTo_18 rfl (by decide) (h4.1 q6).1 rfl ?_
      refine z_goto (tgt := 2) dX12_sideTo_21 (by decide) ?_
      refine z_drop [some (0, v0), some (0, v1), some (0, v2 + 1)] ⟨rfl, rfl, rfl, trivial⟩ ?_
      exact (h4.1 q6).2
    · refine z_iload_n dX12_sideTo_16 rfl ?_
      exact z_ireturn dX12_sideTo_17 rfl rfl ⟨_, rfl, (h4.2 q7)⟩
set_option maxRecDepth 20000 in
theorem V_X12_laysBehind {a b : Int}  {μ : z_Mem} {d : Nat} {K : z_Mem → Prop} (h : ((0 : Int) ≤ a ∧ a < 30) ∧ (z_ci m_X12_wayOf [(0, μ 122 a), (0, b)] μ d (fun x3 m1 => ((0 : Int) ≤ a ∧ a < 30) ∧ (z_ci m_X12_cubeAt [(2, 113), (0, m1 121 a), (0, x3), (0, μ 122 a)] m1 d (fun x6 m4 => ((0 : Int) ≤ a ∧ a < 30) ∧ (z_ci m_X12_cubeAt [(2, 113), (0, m4 121 a), (0, x3), (0, (-1))] m4 d (fun x9 m7 => z_I (4 * a) ∧ (z_I ((4 * a) + b) ∧ ((x6 = (-1) → (x9 = (-1) → ((0 : Int) ≤ (4 * a) + b ∧ (4 * a) + b < 120) ∧ (((0 : Int) ≤ a ∧ a < 30) ∧ (z_ci m_X12_faceOf [(2, 113), (0, (z_st m7 125 ((4 * a) + b) 0) 121 a), (0, x3)] (z_st m7 125 ((4 * a) + b) 0) d (fun x16 m14 => ((0 : Int) ≤ (4 * a) + b ∧ (4 * a) + b < 120) ∧ (((0 : Int) ≤ x16 ∧ x16 < 30) ∧ (z_ci m_X12_sideTo [(0, (z_st m14 123 ((4 * a) + b) x16) 122 x16), (0, μ 122 a)] (z_st m14 123 ((4 * a) + b) x16) d (fun x19 m17 => ((0 : Int) ≤ (4 * a) + b ∧ (4 * a) + b < 120) ∧ (K (z_st m17 124 ((4 * a) + b) x19))))))))) ∧ (¬ x9 = (-1) → ((0 : Int) ≤ (4 * a) + b ∧ (4 * a) + b < 120) ∧ (z_ci m_X12_faceOf [(2, 113), (0, x9), (0, μ 122 a)] (z_st m7 125 ((4 * a) + b) 1) d (fun x22 m20 => ((0 : Int) ≤ x3 ∧ (0 : Int) ≤ 1) ∧ (((0 : Int) ≤ (4 * a) + b ∧ (4 * a) + b < 120) ∧ (((0 : Int) ≤ x22 ∧ x22 < 30) ∧ (z_ci m_X12_sideTo [(0, (z_st m20 123 ((4 * a) + b) x22) 122 x22), (0, ((((x3 : Int).toNat ^^^ (1 : Int).toNat : Nat)) : Int))] (z_st m20 123 ((4 * a) + b) x22) d (fun x25 m23 => ((0 : Int) ≤ (4 * a) + b ∧ (4 * a) + b < 120) ∧ (K (z_st m23 124 ((4 * a) + b) x25)))))))))) ∧ (¬ x6 = (-1) → ((0 : Int) ≤ (4 * a) + b ∧ (4 * a) + b < 120) ∧ (((0 : Int) ≤ x3 ∧ (0 : Int) ≤ 1) ∧ (z_ci m_X12_faceOf [(2, 113), (0, x6), (0, ((((x3 : Int).toNat ^^^ (1 : Int).toNat : Nat)) : Int))] (z_st m7 125 ((4 * a) + b) 2) d (fun x28 m26 => ((0 : Int) ≤ μ 122 a ∧ (0 : Int) ≤ 1) ∧ (((0 : Int) ≤ (4 * a) + b ∧ (4 * a) + b < 120) ∧ (((0 : Int) ≤ x28 ∧ x28 < 30) ∧ (z_ci m_X12_sideTo [(0, (z_st m26 123 ((4 * a) + b) x28) 122 x28), (0, ((((μ 122 a : Int).toNat ^^^ (1 : Int).toNat : Nat)) : Int))] (z_st m26 123 ((4 * a) + b) x28) d (fun x31 m29 => ((0 : Int) ≤ (4 * a) + b ∧ (4 * a) + b < 120) ∧ (K (z_st m29 124 ((4 * a) + b) x31))))))))))))))))))) : z_cn m_X12_laysBehind [(2, 113), (0, a), (0, b)] μ (d + 1) K := by
  show z_R m_X12_laysBehind 0 [some (2, 113), some (0, a), some (0, b), none, none, none, none, none, none, none] [] z_n μ (d + 1) _
  refine z_aload_n dX12_laysBehind_0 rfl ?_
  refine n_getp (ji := 13) dX12_laysBehind_1 zf_X12_36 k_113 rfl (by decide) rfl p_113_13 ?_
  refine z_iload_n dX12_laysBehind_4 rfl ?_
  refine n_iald dX12_laysBehind_5 k_122 h.1 ?_
  refine n_istore_n (lo' := [some (2, 113), some (0, a), some (0, b), some (0, μ 122 a), none, none, none, none, none, none]) dX12_laysBehind_6 ⟨Nat.le_of_ble_eq_true rfl, Nat.le_of_ble_eq_true rfl⟩ rfl ?_
  refine z_iload_n dX12_laysBehind_7 rfl ?_
  refine z_iload_n dX12_laysBehind_8 rfl ?_
  refine n_sI (as := [(0, μ 122 a), (0, b)]) (rest := []) dX12_laysBehind_9 zm_X12_wayOf zs_X12_223 rfl rfl (Nat.le_of_ble_eq_true rfl) (Nat.le_of_ble_eq_true rfl) h.2 (fun x3 m1 h2 => ?_)
  refine n_istore (lo' := [some (2, 113), some (0, a), some (0, b), some (0, μ 122 a), some (0, x3), none, none, none, none, none]) dX12_laysBehind_12 ⟨Nat.le_of_ble_eq_true rfl, Nat.le_of_ble_eq_true rfl⟩ rfl ?_
  refine z_aload_n dX12_laysBehind_14 rfl ?_
  refine z_aload_n dX12_laysBehind_15 rfl ?_
  refine n_getp (ji := 12) dX12_laysBehind_16 zf_X12_33 k_113 rfl (by decide) rfl p_113_12 ?_
  refine z_iload_n dX12_laysBehind_19 rfl ?_
  refine n_iald dX12_laysBehind_20 k_121 h2.1 ?_
  refine z_iload dX12_laysBehind_21 rfl ?_
  refine z_iload_n dX12_laysBehind_23 rfl ?_
  refine n_vI (as := [(0, m1 121 a), (0, x3), (0, μ 122 a)]) (rest := []) dX12_laysBehind_24 zm_X12_cubeAt zs_X12_226 k_113 (by decide) rfl rfl (Nat.le_of_ble_eq_true rfl) (Nat.le_of_ble_eq_true rfl) h2.2 (fun x6 m4 h5 => ?_)
  refine n_istore (lo' := [some (2, 113), some (0, a), some (0, b), some (0, μ 122 a), some (0, x3), some (0, x6), none, none, none, none]) dX12_laysBehind_27 ⟨Nat.le_of_ble_eq_true rfl, Nat.le_of_ble_eq_true rfl⟩ rfl ?_
  refine z_aload_n dX12_laysBehind_29 rfl ?_
  refine z_aload_n dX12_laysBehind_30 rfl ?_
  refine n_getp (ji := 12) dX12_laysBehind_31 zf_X12_33 k_113 rfl (by decide) rfl p_113_12 ?_
  refine z_iload_n dX12_laysBehind_34 rfl ?_
  refine n_iald dX12_laysBehind_35 k_121 h5.1 ?_
  refine z_iload dX12_laysBehind_36 rfl ?_
  refine z_iconst dX12_laysBehind_38 ⟨by decide, by decide⟩ ?_
  refine n_vI (as := [(0, m4 121 a), (0, x3), (0, (-1))]) (rest := []) dX12_laysBehind_39 zm_X12_cubeAt zs_X12_226 k_113 (by decide) rfl rfl (Nat.le_of_ble_eq_true rfl) (Nat.le_of_ble_eq_true rfl) h5.2 (fun x9 m7 h8 => ?_)
  refine n_istore (lo' := [some (2, 113), some (0, a), some (0, b), some (0, μ 122 a), some (0, x3), some (0, x6), some (0, x9), none, none, none]) dX12_laysBehind_42 ⟨Nat.le_of_ble_eq_true rfl, Nat.le_of_ble_eq_true rfl⟩ rfl ?_
  refine z_iconst dX12_laysBehind_44 ⟨by decide, by decide⟩ ?_
  refine z_iload_n dX12_laysBehind_45 rfl ?_
  refine z_imul dX12_laysBehind_46 h8.1 ?_
  refine z_iload_n dX12_laysBehind_47 rfl ?_
  refine z_iadd dX12_laysBehind_48 h8.2.1 ?_
  refine n_istore (lo' := [some (2, 113), some (0, a), some (0, b), some (0, μ 122 a), some (0, x3), some (0, x6), some (0, x9), some (0, (4 * a) + b), none, none]) dX12_laysBehind_49 ⟨Nat.le_of_ble_eq_true rfl, Nat.le_of_ble_eq_true rfl⟩ rfl ?_
  refine z_iload dX12_laysBehind_51 rfl ?_
  refine z_iconst dX12_laysBehind_53 ⟨by decide, by decide⟩ ?_
  refine z_icmp_eq (tgt := 85) dX12_laysBehind_54 (by decide) (fun q10 => ?_) (fun q11 => ?_)
  · refine z_iload dX12_laysBehind_85 rfl ?_
    refine z_iconst dX12_laysBehind_87 ⟨by decide, by decide⟩ ?_
    refine z_icmp_eq (tgt := 117) dX12_laysBehind_88 (by decide) (fun q12 => ?_) (fun q13 => ?_)
    · refine z_aload_n dX12_laysBehind_117 rfl ?_
      refine n_getp (ji := 16) dX12_laysBehind_118 zf_X12_45 k_113 rfl (by decide) rfl p_113_16 ?_
      refine z_iload dX12_laysBehind_121 rfl ?_
      refine z_iconst dX12_laysBehind_123 ⟨by decide, by decide⟩ ?_
      refine n_iast dX12_laysBehind_124 k_125 ((h8.2.2.1 q10).1 q12).1 ?_
      refine z_aload_n dX12_laysBehind_125 rfl ?_
      refine z_aload_n dX12_laysBehind_126 rfl ?_
      refine n_getp (ji := 12) dX12_laysBehind_127 zf_X12_33 k_113 rfl (by decide) rfl p_113_12 ?_
      refine z_iload_n dX12_laysBehind_130 rfl ?_
      refine n_iald dX12_laysBehind_131 k_121 ((h8.2.2.1 q10).1 q12).2.1 ?_
      refine z_iload dX12_laysBehind_132 rfl ?_
      refine n_vI (as := [(0, (z_st m7 125 ((4 * a) + b) 0) 121 a), (0, x3)]) (rest := []) dX12_laysBehind_134 zm_X12_faceOf zs_X12_230 k_113 (by decide) rfl rfl (Nat.le_of_ble_eq_true rfl) (Nat.le_of_ble_eq_true rfl) ((h8.2.2.1 q10).1 q12).2.2 (fun x16 m14 h15 => ?_)
      refine n_istore (lo' := [some (2, 113), some (0, a), some (0, b), some (0, μ 122 a), some (0, x3), some (0, x6), some (0, x9), some (0, (4 * a) + b), some (0, x16), none]) dX12_laysBehind_137 ⟨Nat.le_of_ble_eq_true rfl, Nat.le_of_ble_eq_true rfl⟩ rfl ?_
      refine z_iload_n dX12_laysBehind_139 rfl ?_
      refine n_istore (lo' := [some (2, 113), some (0, a), some (0, b), some (0, μ 122 a), some (0, x3), some (0, x6), some (0, x9), some (0, (4 * a) + b), some (0, x16), some (0, μ 122 a)]) dX12_laysBehind_140 ⟨Nat.le_of_ble_eq_true rfl, Nat.le_of_ble_eq_true rfl⟩ rfl ?_
      refine z_aload_n dX12_laysBehind_142 rfl ?_
      refine n_getp (ji := 14) dX12_laysBehind_143 zf_X12_39 k_113 rfl (by decide) rfl p_113_14 ?_
      refine z_iload dX12_laysBehind_146 rfl ?_
      refine z_iload dX12_laysBehind_148 rfl ?_
      refine n_iast dX12_laysBehind_150 k_123 h15.1 ?_
      refine z_aload_n dX12_laysBehind_151 rfl ?_
      refine n_getp (ji := 15) dX12_laysBehind_152 zf_X12_42 k_113 rfl (by decide) rfl p_113_15 ?_
      refine z_iload dX12_laysBehind_155 rfl ?_
      refine z_aload_n dX12_laysBehind_157 rfl ?_
      refine n_getp (ji := 13) dX12_laysBehind_158 zf_X12_36 k_113 rfl (by decide) rfl p_113_13 ?_
      refine z_iload dX12_laysBehind_161 rfl ?_
      refine n_iald dX12_laysBehind_163 k_122 h15.2.1 ?_
      refine z_iload dX12_laysBehind_164 rfl ?_
      refine n_sI (as := [(0, (z_st m14 123 ((4 * a) + b) x16) 122 x16), (0, μ 122 a)]) (rest := [(0, (4 * a) + b), (2, 124)]) dX12_laysBehind_166 zm_X12_sideTo zs_X12_233 rfl rfl (Nat.le_of_ble_eq_true rfl) (Nat.le_of_ble_eq_true rfl) h15.2.2 (fun x19 m17 h18 => ?_)
      refine n_iast dX12_laysBehind_169 k_124 h18.1 ?_
      exact z_return dX12_laysBehind_170 rfl rfl ⟨rfl, h18.2⟩
    · refine z_aload_n dX12_laysBehind_91 rfl ?_
      refine n_getp (ji := 16) dX12_laysBehind_92 zf_X12_45 k_113 rfl (by decide) rfl p_113_16 ?_
      refine z_iload dX12_laysBehind_95 rfl ?_
      refine z_iconst dX12_laysBehind_97 ⟨by decide, by decide⟩ ?_
      refine n_iast dX12_laysBehind_98 k_125 ((h8.2.2.1 q10).2 q13).1 ?_
      refine z_aload_n dX12_laysBehind_99 rfl ?_
      refine z_iload dX12_laysBehind_100 rfl ?_
      refine z_iload_n dX12_laysBehind_102 rfl ?_
      refine n_vI (as := [(0, x9), (0, μ 122 a)]) (rest := []) dX12_laysBehind_103 zm_X12_faceOf zs_X12_230 k_113 (by decide) rfl rfl (Nat.le_of_ble_eq_true rfl) (Nat.le_of_ble_eq_true rfl) ((h8.2.2.1 q10).2 q13).2 (fun x22 m20 h21 => ?_)
      refine n_istore (lo' := [some (2, 113), some (0, a), some (0, b), some (0, μ 122 a), some (0, x3), some (0, x6), some (0, x9), some (0, (4 * a) + b), some (0, x22), none]) dX12_laysBehind_106 ⟨Nat.le_of_ble_eq_true rfl, Nat.le_of_ble_eq_true rfl⟩ rfl ?_
      refine z_iload dX12_laysBehind_108 rfl ?_
      refine z_iconst dX12_laysBehind_110 ⟨by decide, by decide⟩ ?_
      refine z_ixor dX12_laysBehind_111 h21.1.1 h21.1.2 ?_
      refine n_istore (lo' := [some (2, 113), some (0, a), some (0, b), some (0, μ 122 a), some (0, x3), some (0, x6), some (0, x9), some (0, (4 * a) + b), some (0, x22), some (0, ((((x3 : Int).toNat ^^^ (1 : Int).toNat : Nat)) : Int))]) dX12_laysBehind_112 ⟨Nat.le_of_ble_eq_true rfl, Nat.le_of_ble_eq_true rfl⟩ rfl ?_
      refine z_goto (tgt := 142) dX12_laysBehind_114 (by decide) ?_
      refine z_aload_n dX12_laysBehind_142 rfl ?_
      refine n_getp (ji := 14) dX12_laysBehind_143 zf_X12_39 k_113 rfl (by decide) rfl p_113_14 ?_
      refine z_iload dX12_laysBehind_146 rfl ?_
      refine z_iload dX12_laysBehind_148 rfl ?_
      refine n_iast dX12_laysBehind_150 k_123 h21.2.1 ?_
      refine z_aload_n dX12_laysBehind_151 rfl ?_
      refine n_getp (ji := 15) dX12_laysBehind_152 zf_X12_42 k_113 rfl (by decide) rfl p_113_15 ?_
      refine z_iload dX12_laysBehind_155 rfl ?_
      refine z_aload_n dX12_laysBehind_157 rfl ?_
      refine n_getp (ji := 13) dX12_laysBehind_158 zf_X12_36 k_113 rfl (by decide) rfl p_113_13 ?_
      refine z_iload dX12_laysBehind_161 rfl ?_
      refine n_iald dX12_laysBehind_163 k_122 h21.2.2.1 ?_
      refine z_iload dX12_laysBehind_164 rfl ?_
      refine n_sI (as := [(0, (z_st m20 123 ((4 * a) + b) x22) 122 x22), (0, ((((x3 : Int).toNat ^^^ (1 : Int).toNat : Nat)) : Int))]) (rest := [(0, (4 * a) + b), (2, 124)]) dX12_laysBehind_166 zm_X12_sideTo zs_X12_233 rfl rfl (Nat.le_of_ble_eq_true rfl) (Nat.le_of_ble_eq_true rfl) h21.2.2.2 (fun x25 m23 h24 => ?_)
      refine n_iast dX12_laysBehind_169 k_124 h24.1 ?_
      exact z_return dX12_laysBehind_170 rfl rfl ⟨rfl, h24.2⟩
  · refine z_aload_n dX12_laysBehind_57 rfl ?_
    refine n_getp (ji := 16) dX12_laysBehind_58 zf_X12_45 k_113 rfl (by decide) rfl p_113_16 ?_
    refine z_iload dX12_laysBehind_61 rfl ?_
    refine z_iconst dX12_laysBehind_63 ⟨by decide, by decide⟩ ?_
    refine n_iast dX12_laysBehind_64 k_125 (h8.2.2.2 q11).1 ?_
    refine z_aload_n dX12_laysBehind_65 rfl ?_
    refine z_iload dX12_laysBehind_66 rfl ?_
    refine z_iload dX12_laysBehind_68 rfl ?_
    refine z_iconst dX12_laysBehind_70 ⟨by decide, by decide⟩ ?_
    refine z_ixor dX12_laysBehind_71 (h8.2.2.2 q11).2.1.1 (h8.2.2.2 q11).2.1.2 ?_
    refine n_vI (as := [(0, x6), (0, ((((x3 : Int).toNat ^^^ (1 : Int).toNat : Nat)) : Int))]) (rest := []) dX12_laysBehind_72 zm_X12_faceOf zs_X12_230 k_113 (by decide) rfl rfl (Nat.le_of_ble_eq_true rfl) (Nat.le_of_ble_eq_true rfl) (h8.2.2.2 q11).2.2 (fun x28 m26 h27 => ?_)
    refine n_istore (lo' := [some (2, 113), some (0, a), some (0, b), some (0, μ 122 a), some (0, x3), some (0, x6), some (0, x9), some (0, (4 * a) + b), some (0, x28), none]) dX12_laysBehind_75 ⟨Nat.le_of_ble_eq_true rfl, Nat.le_of_ble_eq_true rfl⟩ rfl ?_
    refine z_iload_n dX12_laysBehind_77 rfl ?_
    refine z_iconst dX12_laysBehind_78 ⟨by decide, by decide⟩ ?_
    refine z_ixor dX12_laysBehind_79 h27.1.1 h27.1.2 ?_
    refine n_istore (lo' := [some (2, 113), some (0, a), some (0, b), some (0, μ 122 a), some (0, x3), some (0, x6), some (0, x9), some (0, (4 * a) + b), some (0, x28), some (0, ((((μ 122 a : Int).toNat ^^^ (1 : Int).toNat : Nat)) : Int))]) dX12_laysBehind_80 ⟨Nat.le_of_ble_eq_true rfl, Nat.le_of_ble_eq_true rfl⟩ rfl ?_
    refine z_goto (tgt := 142) dX12_laysBehind_82 (by decide) ?_
    refine z_aload_n dX12_laysBehind_142 rfl ?_
    refine n_getp (ji := 14) dX12_laysBehind_143 zf_X12_39 k_113 rfl (by decide) rfl p_113_14 ?_
    refine z_iload dX12_laysBehind_146 rfl ?_
    refine z_iload dX12_laysBehind_148 rfl ?_
    refine n_iast dX12_laysBehind_150 k_123 h27.2.1 ?_
    refine z_aload_n dX12_laysBehind_151 rfl ?_
    refine n_getp (ji := 15) dX12_laysBehind_152 zf_X12_42 k_113 rfl (by decide) rfl p_113_15 ?_
    refine z_iload dX12_laysBehind_155 rfl ?_
    refine z_aload_n dX12_laysBehind_157 rfl ?_
    refine n_getp (ji := 13) dX12_laysBehind_158 zf_X12_36 k_113 rfl (by decide) rfl p_113_13 ?_
    refine z_iload dX12_laysBehind_161 rfl ?_
    refine n_iald dX12_laysBehind_163 k_122 h27.2.2.1 ?_
    refine z_iload dX12_laysBehind_164 rfl ?_
    refine n_sI (as := [(0, (z_st m26 123 ((4 * a) + b) x28) 122 x28), (0, ((((μ 122 a : Int).toNat ^^^ (1 : Int).toNat : Nat)) : Int))]) (rest := [(0, (4 * a) + b), (2, 124)]) dX12_laysBehind_166 zm_X12_sideTo zs_X12_233 rfl rfl (Nat.le_of_ble_eq_true rfl) (Nat.le_of_ble_eq_true rfl) h27.2.2.2 (fun x31 m29 h30 => ?_)
    refine n_iast dX12_laysBehind_169 k_124 h30.1 ?_
    exact z_return dX12_laysBehind_170 rfl rfl ⟨rfl, h30.2⟩
set_option maxRecDepth 20000 in
theorem V_X12_laysSkin  {μ : z_Mem} {d : Nat} {K : z_Mem → Prop} (h : z_rn m_X12_laysSkin 7 [some (2, 113), some (0, 0), none] (z_st μ 113 21 0) (d + 1) K) : z_cn m_X12_laysSkin [(2, 113)] μ (d + 1) K := by
  show z_R m_X12_laysSkin 0 [some (2, 113), none, none] [] z_n μ (d + 1) _
  refine z_aload_n dX12_laysSkin_0 rfl ?_
  refine z_iconst dX12_laysSkin_1 ⟨by decide, by decide⟩ ?_
  refine n_putI (ji := 21) dX12_laysSkin_2 zf_X12_205 k_113 rfl (by decide) rfl ?_
  refine z_iconst dX12_laysSkin_5 ⟨by decide, by decide⟩ ?_
  refine n_istore_n (lo' := [some (2, 113), some (0, 0), none]) dX12_laysSkin_6 ⟨Nat.le_of_ble_eq_true rfl, Nat.le_of_ble_eq_true rfl⟩ rfl ?_
  refine z_drop [some (2, 113), some (0, 0), none] ⟨rfl, rfl, trivial⟩ ?_
  exact h
set_option maxRecDepth 20000 in
theorem V_X12_laysSkin_7 {v1 : Int}  {μ : z_Mem} {d : Nat} {K : z_Mem → Prop} (h : (μ 114 0 ≤ v1 → z_rn m_X12_laysSkin 80 [some (2, 113), some (0, 0), none] μ (d + 1) K) ∧ (v1 < μ 114 0 → z_rn m_X12_laysSkin 19 [some (2, 113), some (0, v1), some (0, 0)] μ (d + 1) K)) : z_rn m_X12_laysSkin 7 [some (2, 113), some (0, v1), none] μ (d + 1) K := by
  show z_R m_X12_laysSkin 7 [some (2, 113), some (0, v1), none] [] z_n μ (d + 1) _
  refine z_iload_n dX12_laysSkin_7 rfl ?_
  refine z_aload_n dX12_laysSkin_8 rfl ?_
  refine n_getp (ji := 0) dX12_laysSkin_9 zf_X12_9 k_113 rfl (by decide) rfl p_113_0 ?_
  refine z_iconst dX12_laysSkin_12 ⟨by decide, by decide⟩ ?_
  refine n_iald dX12_laysSkin_13 k_114 (by decide) ?_
  refine z_icmp_ge (tgt := 78) dX12_laysSkin_14 (by decide) (fun q1 => ?_) (fun q2 => ?_)
  · refine z_iconst dX12_laysSkin_78 ⟨by decide, by decide⟩ ?_
    refine n_istore_n (lo' := [some (2, 113), some (0, 0), none]) dX12_laysSkin_79 ⟨Nat.le_of_ble_eq_true rfl, Nat.le_of_ble_eq_true rfl⟩ rfl ?_
    refine z_drop [some (2, 113), some (0, 0), none] ⟨rfl, rfl, trivial⟩ ?_
    exact (h.1 q1)
  · refine z_iconst dX12_laysSkin_17 ⟨by decide, by decide⟩ ?_
    refine n_istore_n (lo' := [some (2, 113), some (0, v1), some (0, 0)]) dX12_laysSkin_18 ⟨Nat.le_of_ble_eq_true rfl, Nat.le_of_ble_eq_true rfl⟩ rfl ?_
    refine z_drop [some (2, 113), some (0, v1), some (0, 0)] ⟨rfl, rfl, rfl, trivial⟩ ?_
    exact (h.2 q2)
set_option maxRecDepth 20000 in
theorem V_X12_laysSkin_19 {v1 v2 : Int}  {μ : z_Mem} {d : Nat} {K : z_Mem → Prop} (h : (6 ≤ v2 → z_I (v1 + 1) ∧ (z_rn m_X12_laysSkin 7 [some (2, 113), some (0, v1 + 1), none] μ (d + 1) K)) ∧ (v2 < 6 → z_ci m_X12_cubeAt [(2, 113), (0, v1), (0, v2), (0, (-1))] μ d (fun x5 m3 => (¬ x5 = (-1) → z_I (v2 + 1) ∧ (z_rn m_X12_laysSkin 19 [some (2, 113), some (0, v1), some (0, v2 + 1)] m3 (d + 1) K)) ∧ (x5 = (-1) → ((0 : Int) ≤ m3 113 21 ∧ m3 113 21 < 30) ∧ (((0 : Int) ≤ (z_st m3 121 (m3 113 21) v1) 113 21 ∧ (z_st m3 121 (m3 113 21) v1) 113 21 < 30) ∧ (z_I (((z_st (z_st m3 121 (m3 113 21) v1) 122 ((z_st m3 121 (m3 113 21) v1) 113 21) v2) 113 21) + 1) ∧ (z_I (v2 + 1) ∧ (z_rn m_X12_laysSkin 19 [some (2, 113), some (0, v1), some (0, v2 + 1)] (z_st (z_st (z_st m3 121 (m3 113 21) v1) 122 ((z_st m3 121 (m3 113 21) v1) 113 21) v2) 113 21 (((z_st (z_st m3 121 (m3 113 21) v1) 122 ((z_st m3 121 (m3 113 21) v1) 113 21) v2) 113 21) + 1)) (d + 1) K)))))))) : z_rn m_X12_laysSkin 19 [some (2, 113), some (0, v1), some (0, v2)] μ (d + 1) K := by
  show z_R m_X12_laysSkin 19 [some (2, 113), some (0, v1), some (0, v2)] [] z_n μ (d + 1) _
  refine z_iload_n dX12_laysSkin_19 rfl ?_
  refine z_bipush dX12_laysSkin_20 (by decide) ?_
  refine z_icmp_ge (tgt := 72) dX12_laysSkin_22 (by decide) (fun q1 => ?_) (fun q2 => ?_)
  · refine n_iinc (lo' := [some (2, 113), some (0, v1 + 1), some (0, v2)]) dX12_laysSkin_72 rfl (by decide) (h.1 q1).1 rfl ?_
    refine z_goto (tgt := 7) dX12_laysSkin_75 (by decide) ?_
    refine z_drop [some (2, 113), some (0, v1 + 1), none] ⟨rfl, rfl, trivial⟩ ?_
    exact (h.1 q1).2
  · refine z_aload_n dX12_laysSkin_25 rfl ?_
    refine z_iload_n dX12_laysSkin_26 rfl ?_
    refine z_iload_n dX12_laysSkin_27 rfl ?_
    refine z_iconst dX12_laysSkin_28 ⟨by decide, by decide⟩ ?_
    refine n_vI (as := [(0, v1), (0, v2), (0, (-1))]) (rest := []) dX12_laysSkin_29 zm_X12_cubeAt zs_X12_226 k_113 (by decide) rfl rfl (Nat.le_of_ble_eq_true rfl) (Nat.le_of_ble_eq_true rfl) (h.2 q2) (fun x5 m3 h4 => ?_)
    refine z_iconst dX12_laysSkin_32 ⟨by decide, by decide⟩ ?_
    refine z_icmp_ne (tgt := 66) dX12_laysSkin_33 (by decide) (fun q6 => ?_) (fun q7 => ?_)
    · refine n_iinc (lo' := [some (2, 113), some (0, v1), some (0, v2 + 1)]) dX12_laysSkin_66 rfl (by decide) (h4.1 q6).1 rfl ?_
      refine z_goto (tgt := 19) dX12_laysSkin_69 (by decide) ?_
      refine z_drop [some (2, 113), some (0, v1), some (0, v2 + 1)] ⟨rfl, rfl, rfl, trivial⟩ ?_
      exact (h4.1 q6).2
    · refine z_aload_n dX12_laysSkin_36 rfl ?_
      refine n_getp (ji := 12) dX12_laysSkin_37 zf_X12_33 k_113 rfl (by decide) rfl p_113_12 ?_
      refine z_aload_n dX12_laysSkin_40 rfl ?_
      refine n_getf (ji := 21) (t := 0) dX12_laysSkin_41 zf_X12_205 k_113 rfl (by decide) rfl ?_
      refine z_iload_n dX12_laysSkin_44 rfl ?_
      refine n_iast dX12_laysSkin_45 k_121 (h4.2 q7).1 ?_
      refine z_aload_n dX12_laysSkin_46 rfl ?_
      refine n_getp (ji := 13) dX12_laysSkin_47 zf_X12_36 k_113 rfl (by decide) rfl p_113_13 ?_
      refine z_aload_n dX12_laysSkin_50 rfl ?_
      refine n_getf (ji := 21) (t := 0) dX12_laysSkin_51 zf_X12_205 k_113 rfl (by decide) rfl ?_
      refine z_iload_n dX12_laysSkin_54 rfl ?_
      refine n_iast dX12_laysSkin_55 k_122 (h4.2 q7).2.1 ?_
      refine z_aload_n dX12_laysSkin_56 rfl ?_
      refine z_dup dX12_laysSkin_57 rfl ?_
      refine n_getf (ji := 21) (t := 0) dX12_laysSkin_58 zf_X12_205 k_113 rfl (by decide) rfl ?_
      refine z_iconst dX12_laysSkin_61 ⟨by decide, by decide⟩ ?_
      refine z_iadd dX12_laysSkin_62 (h4.2 q7).2.2.1 ?_
      refine n_putI (ji := 21) dX12_laysSkin_63 zf_X12_205 k_113 rfl (by decide) rfl ?_
      refine n_iinc (lo' := [some (2, 113), some (0, v1), some (0, v2 + 1)]) dX12_laysSkin_66 rfl (by decide) (h4.2 q7).2.2.2.1 rfl ?_
      refine z_goto (tgt := 19) dX12_laysSkin_69 (by decide) ?_
      refine z_drop [some (2, 113), some (0, v1), some (0, v2 + 1)] ⟨rfl, rfl, rfl, trivial⟩ ?_
      exact (h4.2 q7).2.2.2.2
set_option maxRecDepth 20000 in
theorem V_X12_laysSkin_80 {v1 : Int}  {μ : z_Mem} {d : Nat} {K : z_Mem → Prop} (h : (μ 113 21 ≤ v1 → z_cn m_X12_laysEdges [(2, 113)] μ d (fun m3 => z_cn m_X12_laysVertices [(2, 113)] m3 d (fun m5 => K m5))) ∧ (v1 < μ 113 21 → z_rn m_X12_laysSkin 90 [some (2, 113), some (0, v1), some (0, 0)] μ (d + 1) K)) : z_rn m_X12_laysSkin 80 [some (2, 113), some (0, v1), none] μ (d + 1) K := by
  show z_R m_X12_laysSkin 80 [some (2, 113), some (0, v1), none] [] z_n μ (d + 1) _
  refine z_iload_n dX12_laysSkin_80 rfl ?_
  refine z_aload_n dX12_laysSkin_81 rfl ?_
  refine n_getf (ji := 21) (t := 0) dX12_laysSkin_82 zf_X12_205 k_113 rfl (by decide) rfl ?_
  refine z_icmp_ge (tgt := 135) dX12_laysSkin_85 (by decide) (fun q1 => ?_) (fun q2 => ?_)
  · refine z_aload_n dX12_laysSkin_135 rfl ?_
    refine n_vN (as := []) (rest := []) dX12_laysSkin_136 zm_X12_laysEdges zs_X12_239 k_113 (by decide) rfl rfl (Nat.le_of_ble_eq_true rfl) (Nat.le_of_ble_eq_true rfl) (h.1 q1) (fun m3 h4 => ?_)
    refine z_aload_n dX12_laysSkin_139 rfl ?_
    refine n_vN (as := []) (rest := []) dX12_laysSkin_140 zm_X12_laysVertices zs_X12_242 k_113 (by decide) rfl rfl (Nat.le_of_ble_eq_true rfl) (Nat.le_of_ble_eq_true rfl) h4 (fun m5 h6 => ?_)
    exact z_return dX12_laysSkin_143 rfl rfl ⟨rfl, h6⟩
  · refine z_iconst dX12_laysSkin_88 ⟨by decide, by decide⟩ ?_
    refine n_istore_n (lo' := [some (2, 113), some (0, v1), some (0, 0)]) dX12_laysSkin_89 ⟨Nat.le_of_ble_eq_true rfl, Nat.le_of_ble_eq_true rfl⟩ rfl ?_
    refine z_drop [some (2, 113), some (0, v1), some (0, 0)] ⟨rfl, rfl, rfl, trivial⟩ ?_
    exact (h.2 q2)
set_option maxRecDepth 20000 in
theorem V_X12_laysSkin_90 {v1 v2 : Int}  {μ : z_Mem} {d : Nat} {K : z_Mem → Prop} (h : (4 ≤ v2 → z_I (v1 + 1) ∧ (z_rn m_X12_laysSkin 80 [some (2, 113), some (0, v1 + 1), none] μ (d + 1) K)) ∧ (v2 < 4 → z_cn m_X12_laysBehind [(2, 113), (0, v1), (0, v2)] μ d (fun m3 => z_I (4 * v1) ∧ (z_I ((4 * v1) + v2) ∧ (((0 : Int) ≤ (4 * v1) + v2 ∧ (4 * v1) + v2 < 120) ∧ (z_I (4 * v1) ∧ (z_I ((4 * v1) + v2) ∧ (((0 : Int) ≤ (4 * v1) + v2 ∧ (4 * v1) + v2 < 120) ∧ (z_I (v2 + 1) ∧ (z_rn m_X12_laysSkin 90 [some (2, 113), some (0, v1), some (0, v2 + 1)] (z_st (z_st m3 126 ((4 * v1) + v2) (-1)) 128 ((4 * v1) + v2) (-1)) (d + 1) K)))))))))) : z_rn m_X12_laysSkin 90 [some (2, 113), some (0, v1), some (0, v2)] μ (d + 1) K := by
  show z_R m_X12_laysSkin 90 [some (2, 113), some (0, v1), some (0, v2)] [] z_n μ (d + 1) _
  refine z_iload_n dX12_laysSkin_90 rfl ?_
  refine z_iconst dX12_laysSkin_91 ⟨by decide, by decide⟩ ?_
  refine z_icmp_ge (tgt := 129) dX12_laysSkin_92 (by decide) (fun q1 => ?_) (fun q2 => ?_)
  · refine n_iinc (lo' := [some (2, 113), some (0, v1 + 1), some (0, v2)]) dX12_laysSkin_129 rfl (by decide) (h.1 q1).1 rfl ?_
    refine z_goto (tgt := 80) dX12_laysSkin_132 (by decide) ?_
    refine z_drop [some (2, 113), some (0, v1 + 1), none] ⟨rfl, rfl, trivial⟩ ?_
    exact (h.1 q1).2
  · refine z_aload_n dX12_laysSkin_95 rfl ?_
    refine z_iload_n dX12_laysSkin_96 rfl ?_
    refine z_iload_n dX12_laysSkin_97 rfl ?_
    refine n_vN (as := [(0, v1), (0, v2)]) (rest := []) dX12_laysSkin_98 zm_X12_laysBehind zs_X12_236 k_113 (by decide) rfl rfl (Nat.le_of_ble_eq_true rfl) (Nat.le_of_ble_eq_true rfl) (h.2 q2) (fun m3 h4 => ?_)
    refine z_aload_n dX12_laysSkin_101 rfl ?_
    refine n_getp (ji := 17) dX12_laysSkin_102 zf_X12_48 k_113 rfl (by decide) rfl p_113_17 ?_
    refine z_iconst dX12_laysSkin_105 ⟨by decide, by decide⟩ ?_
    refine z_iload_n dX12_laysSkin_106 rfl ?_
    refine z_imul dX12_laysSkin_107 h4.1 ?_
    refine z_iload_n dX12_laysSkin_108 rfl ?_
    refine z_iadd dX12_laysSkin_109 h4.2.1 ?_
    refine z_iconst dX12_laysSkin_110 ⟨by decide, by decide⟩ ?_
    refine n_iast dX12_laysSkin_111 k_126 h4.2.2.1 ?_
    refine z_aload_n dX12_laysSkin_112 rfl ?_
    refine n_getp (ji := 19) dX12_laysSkin_113 zf_X12_54 k_113 rfl (by decide) rfl p_113_19 ?_
    refine z_iconst dX12_laysSkin_116 ⟨by decide, by decide⟩ ?_
    refine z_iload_n dX12_laysSkin_117 rfl ?_
    refine z_imul dX12_laysSkin_118 h4.2.2.2.1 ?_
    refine z_iload_n dX12_laysSkin_119 rfl ?_
    refine z_iadd dX12_laysSkin_120 h4.2.2.2.2.1 ?_
    refine z_iconst dX12_laysSkin_121 ⟨by decide, by decide⟩ ?_
    refine n_iast dX12_laysSkin_122 k_128 h4.2.2.2.2.2.1 ?_
    refine n_iinc (lo' := [some (2, 113), some (0, v1), some (0, v2 + 1)]) dX12_laysSkin_123 rfl (by decide) h4.2.2.2.2.2.2.1 rfl ?_
    refine z_goto (tgt := 90) dX12_laysSkin_126 (by decide) ?_
    refine z_drop [some (2, 113), some (0, v1), some (0, v2 + 1)] ⟨rfl, rfl, rfl, trivial⟩ ?_
    exact h4.2.2.2.2.2.2.2
set_option maxRecDepth 20000 in
theorem V_X12_mate {a : Int}  {μ : z_Mem} {d : Nat} {K : Int → z_Mem → Prop} (h : ((0 : Int) ≤ a ∧ a < 120) ∧ (z_I (4 * (μ 123 a)) ∧ (((0 : Int) ≤ a ∧ a < 120) ∧ (z_I ((4 * (μ 123 a)) + (μ 124 a)) ∧ (K ((4 * (μ 123 a)) + (μ 124 a)) μ))))) : z_ci m_X12_mate [(2, 113), (0, a)] μ d K := by
  show z_R m_X12_mate 0 [some (2, 113), some (0, a)] [] z_n μ d _
  refine z_iconst dX12_mate_0 ⟨by decide, by decide⟩ ?_
  refine z_aload_n dX12_mate_1 rfl ?_
  refine n_getp (ji := 14) dX12_mate_2 zf_X12_39 k_113 rfl (by decide) rfl p_113_14 ?_
  refine z_iload_n dX12_mate_5 rfl ?_
  refine n_iald dX12_mate_6 k_123 h.1 ?_
  refine z_imul dX12_mate_7 h.2.1 ?_
  refine z_aload_n dX12_mate_8 rfl ?_
  refine n_getp (ji := 15) dX12_mate_9 zf_X12_42 k_113 rfl (by decide) rfl p_113_15 ?_
  refine z_iload_n dX12_mate_12 rfl ?_
  refine n_iald dX12_mate_13 k_124 h.2.2.1 ?_
  refine z_iadd dX12_mate_14 h.2.2.2.1 ?_
  exact z_ireturn dX12_mate_15 rfl rfl ⟨_, rfl, h.2.2.2.2⟩
set_option maxRecDepth 20000 in
theorem V_X12_laysEdges  {μ : z_Mem} {d : Nat} {K : z_Mem → Prop} (h : z_rn m_X12_laysEdges 7 [some (2, 113), some (0, 0)] (z_st μ 113 22 0) (d + 1) K) : z_cn m_X12_laysEdges [(2, 113)] μ (d + 1) K := by
  show z_R m_X12_laysEdges 0 [some (2, 113), none] [] z_n μ (d + 1) _
  refine z_aload_n dX12_laysEdges_0 rfl ?_
  refine z_iconst dX12_laysEdges_1 ⟨by decide, by decide⟩ ?_
  refine n_putI (ji := 22) dX12_laysEdges_2 zf_X12_245 k_113 rfl (by decide) rfl ?_
  refine z_iconst dX12_laysEdges_5 ⟨by decide, by decide⟩ ?_
  refine n_istore_n (lo' := [some (2, 113), some (0, 0)]) dX12_laysEdges_6 ⟨Nat.le_of_ble_eq_true rfl, Nat.le_of_ble_eq_true rfl⟩ rfl ?_
  refine z_drop [some (2, 113), some (0, 0)] ⟨rfl, rfl, trivial⟩ ?_
  exact h
set_option maxRecDepth 20000 in
theorem V_X12_laysEdges_7 {v1 : Int}  {μ : z_Mem} {d : Nat} {K : z_Mem → Prop} (h : z_I (4 * (μ 113 21)) ∧ ((4 * (μ 113 21) ≤ v1 → K μ) ∧ (v1 < 4 * (μ 113 21) → ((0 : Int) ≤ v1 ∧ v1 < 120) ∧ ((¬ μ 126 v1 = (-1) → z_I (v1 + 1) ∧ (z_rn m_X12_laysEdges 7 [some (2, 113), some (0, v1 + 1)] μ (d + 1) K)) ∧ (μ 126 v1 = (-1) → ((0 : Int) ≤ v1 ∧ v1 < 120) ∧ (z_ci m_X12_mate [(2, 113), (0, v1)] (z_st μ 126 v1 (μ 113 22)) d (fun x7 m5 => ((0 : Int) ≤ x7 ∧ x7 < 120) ∧ (((0 : Int) ≤ (z_st m5 126 x7 (m5 113 22)) 113 22 ∧ (z_st m5 126 x7 (m5 113 22)) 113 22 < 60) ∧ (z_I (((z_st (z_st m5 126 x7 (m5 113 22)) 127 ((z_st m5 126 x7 (m5 113 22)) 113 22) v1) 113 22) + 1) ∧ (z_I (v1 + 1) ∧ (z_rn m_X12_laysEdges 7 [some (2, 113), some (0, v1 + 1)] (z_st (z_st (z_st m5 126 x7 (m5 113 22)) 127 ((z_st m5 126 x7 (m5 113 22)) 113 22) v1) 113 22 (((z_st (z_st m5 126 x7 (m5 113 22)) 127 ((z_st m5 126 x7 (m5 113 22)) 113 22) v1) 113 22) + 1)) (d + 1) K))))))))))) : z_rn m_X12_laysEdges 7 [some (2, 113), some (0, v1)] μ (d + 1) K := by
  show z_R m_X12_laysEdges 7 [some (2, 113), some (0, v1)] [] z_n μ (d + 1) _
  refine z_iload_n dX12_laysEdges_7 rfl ?_
  refine z_iconst dX12_laysEdges_8 ⟨by decide, by decide⟩ ?_
  refine z_aload_n dX12_laysEdges_9 rfl ?_
  refine n_getf (ji := 21) (t := 0) dX12_laysEdges_10 zf_X12_205 k_113 rfl (by decide) rfl ?_
  refine z_imul dX12_laysEdges_13 h.1 ?_
  refine z_icmp_ge (tgt := 77) dX12_laysEdges_14 (by decide) (fun q1 => ?_) (fun q2 => ?_)
  · exact z_return dX12_laysEdges_77 rfl rfl ⟨rfl, (h.2.1 q1)⟩
  · refine z_aload_n dX12_laysEdges_17 rfl ?_
    refine n_getp (ji := 17) dX12_laysEdges_18 zf_X12_48 k_113 rfl (by decide) rfl p_113_17 ?_
    refine z_iload_n dX12_laysEdges_21 rfl ?_
    refine n_iald dX12_laysEdges_22 k_126 (h.2.2 q2).1 ?_
    refine z_iconst dX12_laysEdges_23 ⟨by decide, by decide⟩ ?_
    refine z_icmp_ne (tgt := 71) dX12_laysEdges_24 (by decide) (fun q3 => ?_) (fun q4 => ?_)
    · refine n_iinc (lo' := [some (2, 113), some (0, v1 + 1)]) dX12_laysEdges_71 rfl (by decide) ((h.2.2 q2).2.1 q3).1 rfl ?_
      refine z_goto (tgt := 7) dX12_laysEdges_74 (by decide) ?_
      refine z_drop [some (2, 113), some (0, v1 + 1)] ⟨rfl, rfl, trivial⟩ ?_
      exact ((h.2.2 q2).2.1 q3).2
    · refine z_aload_n dX12_laysEdges_27 rfl ?_
      refine n_getp (ji := 17) dX12_laysEdges_28 zf_X12_48 k_113 rfl (by decide) rfl p_113_17 ?_
      refine z_iload_n dX12_laysEdges_31 rfl ?_
      refine z_aload_n dX12_laysEdges_32 rfl ?_
      refine n_getf (ji := 22) (t := 0) dX12_laysEdges_33 zf_X12_245 k_113 rfl (by decide) rfl ?_
      refine n_iast dX12_laysEdges_36 k_126 ((h.2.2 q2).2.2 q4).1 ?_
      refine z_aload_n dX12_laysEdges_37 rfl ?_
      refine n_getp (ji := 17) dX12_laysEdges_38 zf_X12_48 k_113 rfl (by decide) rfl p_113_17 ?_
      refine z_aload_n dX12_laysEdges_41 rfl ?_
      refine z_iload_n dX12_laysEdges_42 rfl ?_
      refine n_vI (as := [(0, v1)]) (rest := [(2, 126)]) dX12_laysEdges_43 zm_X12_mate zs_X12_248 k_113 (by decide) rfl rfl (Nat.le_of_ble_eq_true rfl) (Nat.le_of_ble_eq_true rfl) ((h.2.2 q2).2.2 q4).2 (fun x7 m5 h6 => ?_)
      refine z_aload_n dX12_laysEdges_46 rfl ?_
      refine n_getf (ji := 22) (t := 0) dX12_laysEdges_47 zf_X12_245 k_113 rfl (by decide) rfl ?_
      refine n_iast dX12_laysEdges_50 k_126 h6.1 ?_
      refine z_aload_n dX12_laysEdges_51 rfl ?_
      refine n_getp (ji := 18) dX12_laysEdges_52 zf_X12_51 k_113 rfl (by decide) rfl p_113_18 ?_
      refine z_aload_n dX12_laysEdges_55 rfl ?_
      refine n_getf (ji := 22) (t := 0) dX12_laysEdges_56 zf_X12_245 k_113 rfl (by decide) rfl ?_
      refine z_iload_n dX12_laysEdges_59 rfl ?_
      refine n_iast dX12_laysEdges_60 k_127 h6.2.1 ?_
      refine z_aload_n dX12_laysEdges_61 rfl ?_
      refine z_dup dX12_laysEdges_62 rfl ?_
      refine n_getf (ji := 22) (t := 0) dX12_laysEdges_63 zf_X12_245 k_113 rfl (by decide) rfl ?_
      refine z_iconst dX12_laysEdges_66 ⟨by decide, by decide⟩ ?_
      refine z_iadd dX12_laysEdges_67 h6.2.2.1 ?_
      refine n_putI (ji := 22) dX12_laysEdges_68 zf_X12_245 k_113 rfl (by decide) rfl ?_
      refine n_iinc (lo' := [some (2, 113), some (0, v1 + 1)]) dX12_laysEdges_71 rfl (by decide) h6.2.2.2.1 rfl ?_
      refine z_goto (tgt := 7) dX12_laysEdges_74 (by decide) ?_
      refine z_drop [some (2, 113), some (0, v1 + 1)] ⟨rfl, rfl, trivial⟩ ?_
      exact h6.2.2.2.2
set_option maxRecDepth 20000 in
theorem V_X12_laysVertices  {μ : z_Mem} {d : Nat} {K : z_Mem → Prop} (h : z_rn m_X12_laysVertices 7 [some (2, 113), some (0, 0), none, none] (z_st μ 113 23 0) (d + 1) K) : z_cn m_X12_laysVertices [(2, 113)] μ (d + 1) K := by
  show z_R m_X12_laysVertices 0 [some (2, 113), none, none, none] [] z_n μ (d + 1) _
  refine z_aload_n dX12_laysVertices_0 rfl ?_
  refine z_iconst dX12_laysVertices_1 ⟨by decide, by decide⟩ ?_
  refine n_putI (ji := 23) dX12_laysVertices_2 zf_X12_251 k_113 rfl (by decide) rfl ?_
  refine z_iconst dX12_laysVertices_5 ⟨by decide, by decide⟩ ?_
  refine n_istore_n (lo' := [some (2, 113), some (0, 0), none, none]) dX12_laysVertices_6 ⟨Nat.le_of_ble_eq_true rfl, Nat.le_of_ble_eq_true rfl⟩ rfl ?_
  refine z_drop [some (2, 113), some (0, 0), none, none] ⟨rfl, rfl, trivial⟩ ?_
  exact h
set_option maxRecDepth 20000 in
theorem V_X12_laysVertices_7 {v1 : Int}  {μ : z_Mem} {d : Nat} {K : z_Mem → Prop} (h : z_I (4 * (μ 113 21)) ∧ ((4 * (μ 113 21) ≤ v1 → K μ) ∧ (v1 < 4 * (μ 113 21) → ((0 : Int) ≤ v1 ∧ v1 < 120) ∧ ((μ 128 v1 = (-1) → ((0 : Int) ≤ μ 113 23 ∧ μ 113 23 < 120) ∧ (z_rn m_X12_laysVertices 42 [some (2, 113), some (0, v1), some (0, v1), none] (z_st μ 129 (μ 113 23) 0) (d + 1) K)) ∧ (¬ μ 128 v1 = (-1) → z_I (v1 + 1) ∧ (z_rn m_X12_laysVertices 7 [some (2, 113), some (0, v1 + 1), none, none] μ (d + 1) K)))))) : z_rn m_X12_laysVertices 7 [some (2, 113), some (0, v1), none, none] μ (d + 1) K := by
  show z_R m_X12_laysVertices 7 [some (2, 113), some (0, v1), none, none] [] z_n μ (d + 1) _
  refine z_iload_n dX12_laysVertices_7 rfl ?_
  refine z_iconst dX12_laysVertices_8 ⟨by decide, by decide⟩ ?_
  refine z_aload_n dX12_laysVertices_9 rfl ?_
  refine n_getf (ji := 21) (t := 0) dX12_laysVertices_10 zf_X12_205 k_113 rfl (by decide) rfl ?_
  refine z_imul dX12_laysVertices_13 h.1 ?_
  refine z_icmp_ge (tgt := 112) dX12_laysVertices_14 (by decide) (fun q1 => ?_) (fun q2 => ?_)
  · exact z_return dX12_laysVertices_112 rfl rfl ⟨rfl, (h.2.1 q1)⟩
  · refine z_aload_n dX12_laysVertices_17 rfl ?_
    refine n_getp (ji := 19) dX12_laysVertices_18 zf_X12_54 k_113 rfl (by decide) rfl p_113_19 ?_
    refine z_iload_n dX12_laysVertices_21 rfl ?_
    refine n_iald dX12_laysVertices_22 k_128 (h.2.2 q2).1 ?_
    refine z_iconst dX12_laysVertices_23 ⟨by decide, by decide⟩ ?_
    refine z_icmp_eq (tgt := 30) dX12_laysVertices_24 (by decide) (fun q3 => ?_) (fun q4 => ?_)
    · refine z_aload_n dX12_laysVertices_30 rfl ?_
      refine n_getp (ji := 20) dX12_laysVertices_31 zf_X12_57 k_113 rfl (by decide) rfl p_113_20 ?_
      refine z_aload_n dX12_laysVertices_34 rfl ?_
      refine n_getf (ji := 23) (t := 0) dX12_laysVertices_35 zf_X12_251 k_113 rfl (by decide) rfl ?_
      refine z_iconst dX12_laysVertices_38 ⟨by decide, by decide⟩ ?_
      refine n_iast dX12_laysVertices_39 k_129 ((h.2.2 q2).2.1 q3).1 ?_
      refine z_iload_n dX12_laysVertices_40 rfl ?_
      refine n_istore_n (lo' := [some (2, 113), some (0, v1), some (0, v1), none]) dX12_laysVertices_41 ⟨Nat.le_of_ble_eq_true rfl, Nat.le_of_ble_eq_true rfl⟩ rfl ?_
      refine z_drop [some (2, 113), some (0, v1), some (0, v1), none] ⟨rfl, rfl, rfl, trivial⟩ ?_
      exact ((h.2.2 q2).2.1 q3).2
    · refine z_goto (tgt := 106) dX12_laysVertices_27 (by decide) ?_
      refine n_iinc (lo' := [some (2, 113), some (0, v1 + 1), none, none]) dX12_laysVertices_106 rfl (by decide) ((h.2.2 q2).2.2 q4).1 rfl ?_
      refine z_goto (tgt := 7) dX12_laysVertices_109 (by decide) ?_
      refine z_drop [some (2, 113), some (0, v1 + 1), none, none] ⟨rfl, rfl, trivial⟩ ?_
      exact ((h.2.2 q2).2.2 q4).2
set_option maxRecDepth 20000 in
theorem V_X12_laysVertices_42 {v1 v2 : Int}  {μ : z_Mem} {d : Nat} {K : z_Mem → Prop} (h : ((0 : Int) ≤ v2 ∧ v2 < 120) ∧ ((¬ μ 128 v2 = (-1) → z_I ((μ 113 23) + 1) ∧ (z_I (v1 + 1) ∧ (z_rn m_X12_laysVertices 7 [some (2, 113), some (0, v1 + 1), none, none] (z_st μ 113 23 ((μ 113 23) + 1)) (d + 1) K))) ∧ (μ 128 v2 = (-1) → ((0 : Int) ≤ v2 ∧ v2 < 120) ∧ (((0 : Int) ≤ (z_st μ 128 v2 (μ 113 23)) 113 23 ∧ (z_st μ 128 v2 (μ 113 23)) 113 23 < 120) ∧ (z_I (((z_st μ 128 v2 (μ 113 23)) 129 ((z_st μ 128 v2 (μ 113 23)) 113 23)) + 1) ∧ (((0 : Int) ≤ (z_st μ 128 v2 (μ 113 23)) 113 23 ∧ (z_st μ 128 v2 (μ 113 23)) 113 23 < 120) ∧ (z_ci m_X12_mate [(2, 113), (0, v2)] (z_st (z_st μ 128 v2 (μ 113 23)) 129 ((z_st μ 128 v2 (μ 113 23)) 113 23) (((z_st μ 128 v2 (μ 113 23)) 129 ((z_st μ 128 v2 (μ 113 23)) 113 23)) + 1)) d (fun x5 m3 => ((0 : Int) ≤ x5) ∧ (z_I ((x5 / 4) * 4) ∧ (z_I (x5 + 3) ∧ (((0 : Int) ≤ x5 + 3) ∧ (z_I (((x5 / 4) * 4) + ((x5 + 3) % 4)) ∧ (z_rn m_X12_laysVertices 42 [some (2, 113), some (0, v1), some (0, ((x5 / 4) * 4) + ((x5 + 3) % 4)), none] m3 (d + 1) K))))))))))))) : z_rn m_X12_laysVertices 42 [some (2, 113), some (0, v1), some (0, v2), none] μ (d + 1) K := by
  show z_R m_X12_laysVertices 42 [some (2, 113), some (0, v1), some (0, v2), none] [] z_n μ (d + 1) _
  refine z_aload_n dX12_laysVertices_42 rfl ?_
  refine n_getp (ji := 19) dX12_laysVertices_43 zf_X12_54 k_113 rfl (by decide) rfl p_113_19 ?_
  refine z_iload_n dX12_laysVertices_46 rfl ?_
  refine n_iald dX12_laysVertices_47 k_128 h.1 ?_
  refine z_iconst dX12_laysVertices_48 ⟨by decide, by decide⟩ ?_
  refine z_icmp_ne (tgt := 96) dX12_laysVertices_49 (by decide) (fun q1 => ?_) (fun q2 => ?_)
  · refine z_aload_n dX12_laysVertices_96 rfl ?_
    refine z_dup dX12_laysVertices_97 rfl ?_
    refine n_getf (ji := 23) (t := 0) dX12_laysVertices_98 zf_X12_251 k_113 rfl (by decide) rfl ?_
    refine z_iconst dX12_laysVertices_101 ⟨by decide, by decide⟩ ?_
    refine z_iadd dX12_laysVertices_102 (h.2.1 q1).1 ?_
    refine n_putI (ji := 23) dX12_laysVertices_103 zf_X12_251 k_113 rfl (by decide) rfl ?_
    refine n_iinc (lo' := [some (2, 113), some (0, v1 + 1), some (0, v2), none]) dX12_laysVertices_106 rfl (by decide) (h.2.1 q1).2.1 rfl ?_
    refine z_goto (tgt := 7) dX12_laysVertices_109 (by decide) ?_
    refine z_drop [some (2, 113), some (0, v1 + 1), none, none] ⟨rfl, rfl, trivial⟩ ?_
    exact (h.2.1 q1).2.2
  · refine z_aload_n dX12_laysVertices_52 rfl ?_
    refine n_getp (ji := 19) dX12_laysVertices_53 zf_X12_54 k_113 rfl (by decide) rfl p_113_19 ?_
    refine z_iload_n dX12_laysVertices_56 rfl ?_
    refine z_aload_n dX12_laysVertices_57 rfl ?_
    refine n_getf (ji := 23) (t := 0) dX12_laysVertices_58 zf_X12_251 k_113 rfl (by decide) rfl ?_
    refine n_iast dX12_laysVertices_61 k_128 (h.2.2 q2).1 ?_
    refine z_aload_n dX12_laysVertices_62 rfl ?_
    refine n_getp (ji := 20) dX12_laysVertices_63 zf_X12_57 k_113 rfl (by decide) rfl p_113_20 ?_
    refine z_aload_n dX12_laysVertices_66 rfl ?_
    refine n_getf (ji := 23) (t := 0) dX12_laysVertices_67 zf_X12_251 k_113 rfl (by decide) rfl ?_
    refine z_dup2 dX12_laysVertices_70 rfl rfl ?_
    refine n_iald dX12_laysVertices_71 k_129 (h.2.2 q2).2.1 ?_
    refine z_iconst dX12_laysVertices_72 ⟨by decide, by decide⟩ ?_
    refine z_iadd dX12_laysVertices_73 (h.2.2 q2).2.2.1 ?_
    refine n_iast dX12_laysVertices_74 k_129 (h.2.2 q2).2.2.2.1 ?_
    refine z_aload_n dX12_laysVertices_75 rfl ?_
    refine z_iload_n dX12_laysVertices_76 rfl ?_
    refine n_vI (as := [(0, v2)]) (rest := []) dX12_laysVertices_77 zm_X12_mate zs_X12_248 k_113 (by decide) rfl rfl (Nat.le_of_ble_eq_true rfl) (Nat.le_of_ble_eq_true rfl) (h.2.2 q2).2.2.2.2 (fun x5 m3 h4 => ?_)
    refine n_istore_n (lo' := [some (2, 113), some (0, v1), some (0, v2), some (0, x5)]) dX12_laysVertices_80 ⟨Nat.le_of_ble_eq_true rfl, Nat.le_of_ble_eq_true rfl⟩ rfl ?_
    refine z_iload_n dX12_laysVertices_81 rfl ?_
    refine z_iconst dX12_laysVertices_82 ⟨by decide, by decide⟩ ?_
    refine z_idiv dX12_laysVertices_83 h4.1 (by decide) ?_
    refine z_iconst dX12_laysVertices_84 ⟨by decide, by decide⟩ ?_
    refine z_imul dX12_laysVertices_85 h4.2.1 ?_
    refine z_iload_n dX12_laysVertices_86 rfl ?_
    refine z_iconst dX12_laysVertices_87 ⟨by decide, by decide⟩ ?_
    refine z_iadd dX12_laysVertices_88 h4.2.2.1 ?_
    refine z_iconst dX12_laysVertices_89 ⟨by decide, by decide⟩ ?_
    refine z_irem dX12_laysVertices_90 h4.2.2.2.1 (by decide) ?_
    refine z_iadd dX12_laysVertices_91 h4.2.2.2.2.1 ?_
    refine n_istore_n (lo' := [some (2, 113), some (0, v1), some (0, ((x5 / 4) * 4) + ((x5 + 3) % 4)), some (0, x5)]) dX12_laysVertices_92 ⟨Nat.le_of_ble_eq_true rfl, Nat.le_of_ble_eq_true rfl⟩ rfl ?_
    refine z_goto (tgt := 42) dX12_laysVertices_93 (by decide) ?_
    refine z_drop [some (2, 113), some (0, v1), some (0, ((x5 / 4) * 4) + ((x5 + 3) % 4)), none] ⟨rfl, rfl, rfl, trivial⟩ ?_
    exact h4.2.2.2.2.2
set_option maxRecDepth 20000 in
theorem V_X12_keepsPast  {μ : z_Mem} {d : Nat} {K : z_Mem → Prop} (h : (¬ μ 113 6 = 10 → z_I (143 * (μ 113 6)) ∧ (z_cn m_X12_moves [(2, 114), (0, 0), (2, 117), (0, 143 * (μ 113 6))] μ d (fun m3 => z_I ((m3 113 6) + 1) ∧ (K (z_st m3 113 6 ((m3 113 6) + 1)))))) ∧ (μ 113 6 = 10 → z_rn m_X12_keepsPast 13 [some (2, 113), some (0, 143)] μ (d + 1) K)) : z_cn m_X12_keepsPast [(2, 113)] μ (d + 1) K := by
  show z_R m_X12_keepsPast 0 [some (2, 113), none] [] z_n μ (d + 1) _
  refine z_aload_n dX12_keepsPast_0 rfl ?_
  refine n_getf (ji := 6) (t := 0) dX12_keepsPast_1 zf_X12_199 k_113 rfl (by decide) rfl ?_
  refine z_bipush dX12_keepsPast_4 (by decide) ?_
  refine z_icmp_ne (tgt := 52) dX12_keepsPast_6 (by decide) (fun q1 => ?_) (fun q2 => ?_)
  · refine z_aload_n dX12_keepsPast_52 rfl ?_
    refine n_getp (ji := 0) dX12_keepsPast_53 zf_X12_9 k_113 rfl (by decide) rfl p_113_0 ?_
    refine z_iconst dX12_keepsPast_56 ⟨by decide, by decide⟩ ?_
    refine z_aload_n dX12_keepsPast_57 rfl ?_
    refine n_getp (ji := 3) dX12_keepsPast_58 zf_X12_19 k_113 rfl (by decide) rfl p_113_3 ?_
    refine z_sipush dX12_keepsPast_61 (by decide) ?_
    refine z_aload_n dX12_keepsPast_64 rfl ?_
    refine n_getf (ji := 6) (t := 0) dX12_keepsPast_65 zf_X12_199 k_113 rfl (by decide) rfl ?_
    refine z_imul dX12_keepsPast_68 (h.1 q1).1 ?_
    refine n_sN (as := [(2, 114), (0, 0), (2, 117), (0, 143 * (μ 113 6))]) (rest := []) dX12_keepsPast_69 zm_X12_moves zs_X12_195 rfl rfl (Nat.le_of_ble_eq_true rfl) (Nat.le_of_ble_eq_true rfl) (h.1 q1).2 (fun m3 h4 => ?_)
    refine z_aload_n dX12_keepsPast_72 rfl ?_
    refine z_dup dX12_keepsPast_73 rfl ?_
    refine n_getf (ji := 6) (t := 0) dX12_keepsPast_74 zf_X12_199 k_113 rfl (by decide) rfl ?_
    refine z_iconst dX12_keepsPast_77 ⟨by decide, by decide⟩ ?_
    refine z_iadd dX12_keepsPast_78 h4.1 ?_
    refine n_putI (ji := 6) dX12_keepsPast_79 zf_X12_199 k_113 rfl (by decide) rfl ?_
    exact z_return dX12_keepsPast_82 rfl rfl ⟨rfl, h4.2⟩
  · refine z_sipush dX12_keepsPast_9 (by decide) ?_
    refine n_istore_n (lo' := [some (2, 113), some (0, 143)]) dX12_keepsPast_12 ⟨Nat.le_of_ble_eq_true rfl, Nat.le_of_ble_eq_true rfl⟩ rfl ?_
    refine z_drop [some (2, 113), some (0, 143)] ⟨rfl, rfl, trivial⟩ ?_
    exact (h.2 q2)
set_option maxRecDepth 20000 in
theorem V_X12_keepsPast_13 {v1 : Int}  {μ : z_Mem} {d : Nat} {K : z_Mem → Prop} (h : (1430 ≤ v1 → z_I ((μ 113 6) - 1) ∧ (z_I (143 * ((z_st μ 113 6 ((μ 113 6) - 1)) 113 6)) ∧ (z_cn m_X12_moves [(2, 114), (0, 0), (2, 117), (0, 143 * ((z_st μ 113 6 ((μ 113 6) - 1)) 113 6))] (z_st μ 113 6 ((μ 113 6) - 1)) d (fun m3 => z_I ((m3 113 6) + 1) ∧ (K (z_st m3 113 6 ((m3 113 6) + 1))))))) ∧ (v1 < 1430 → z_I (v1 - 143) ∧ (((0 : Int) ≤ v1 ∧ v1 < 1430) ∧ (((0 : Int) ≤ v1 - 143 ∧ v1 - 143 < 1430) ∧ (z_I (v1 + 1) ∧ (z_rn m_X12_keepsPast 13 [some (2, 113), some (0, v1 + 1)] (z_st μ 117 (v1 - 143) (μ 117 v1)) (d + 1) K)))))) : z_rn m_X12_keepsPast 13 [some (2, 113), some (0, v1)] μ (d + 1) K := by
  show z_R m_X12_keepsPast 13 [some (2, 113), some (0, v1)] [] z_n μ (d + 1) _
  refine z_iload_n dX12_keepsPast_13 rfl ?_
  refine z_sipush dX12_keepsPast_14 (by decide) ?_
  refine z_icmp_ge (tgt := 42) dX12_keepsPast_17 (by decide) (fun q1 => ?_) (fun q2 => ?_)
  · refine z_aload_n dX12_keepsPast_42 rfl ?_
    refine z_dup dX12_keepsPast_43 rfl ?_
    refine n_getf (ji := 6) (t := 0) dX12_keepsPast_44 zf_X12_199 k_113 rfl (by decide) rfl ?_
    refine z_iconst dX12_keepsPast_47 ⟨by decide, by decide⟩ ?_
    refine z_isub dX12_keepsPast_48 (h.1 q1).1 ?_
    refine n_putI (ji := 6) dX12_keepsPast_49 zf_X12_199 k_113 rfl (by decide) rfl ?_
    refine z_aload_n dX12_keepsPast_52 rfl ?_
    refine n_getp (ji := 0) dX12_keepsPast_53 zf_X12_9 k_113 rfl (by decide) rfl p_113_0 ?_
    refine z_iconst dX12_keepsPast_56 ⟨by decide, by decide⟩ ?_
    refine z_aload_n dX12_keepsPast_57 rfl ?_
    refine n_getp (ji := 3) dX12_keepsPast_58 zf_X12_19 k_113 rfl (by decide) rfl p_113_3 ?_
    refine z_sipush dX12_keepsPast_61 (by decide) ?_
    refine z_aload_n dX12_keepsPast_64 rfl ?_
    refine n_getf (ji := 6) (t := 0) dX12_keepsPast_65 zf_X12_199 k_113 rfl (by decide) rfl ?_
    refine z_imul dX12_keepsPast_68 (h.1 q1).2.1 ?_
    refine n_sN (as := [(2, 114), (0, 0), (2, 117), (0, 143 * ((z_st μ 113 6 ((μ 113 6) - 1)) 113 6))]) (rest := []) dX12_keepsPast_69 zm_X12_moves zs_X12_195 rfl rfl (Nat.le_of_ble_eq_true rfl) (Nat.le_of_ble_eq_true rfl) (h.1 q1).2.2 (fun m3 h4 => ?_)
    refine z_aload_n dX12_keepsPast_72 rfl ?_
    refine z_dup dX12_keepsPast_73 rfl ?_
    refine n_getf (ji := 6) (t := 0) dX12_keepsPast_74 zf_X12_199 k_113 rfl (by decide) rfl ?_
    refine z_iconst dX12_keepsPast_77 ⟨by decide, by decide⟩ ?_
    refine z_iadd dX12_keepsPast_78 h4.1 ?_
    refine n_putI (ji := 6) dX12_keepsPast_79 zf_X12_199 k_113 rfl (by decide) rfl ?_
    exact z_return dX12_keepsPast_82 rfl rfl ⟨rfl, h4.2⟩
  · refine z_aload_n dX12_keepsPast_20 rfl ?_
    refine n_getp (ji := 3) dX12_keepsPast_21 zf_X12_19 k_113 rfl (by decide) rfl p_113_3 ?_
    refine z_iload_n dX12_keepsPast_24 rfl ?_
    refine z_sipush dX12_keepsPast_25 (by decide) ?_
    refine z_isub dX12_keepsPast_28 (h.2 q2).1 ?_
    refine z_aload_n dX12_keepsPast_29 rfl ?_
    refine n_getp (ji := 3) dX12_keepsPast_30 zf_X12_19 k_113 rfl (by decide) rfl p_113_3 ?_
    refine z_iload_n dX12_keepsPast_33 rfl ?_
    refine n_iald dX12_keepsPast_34 k_117 (h.2 q2).2.1 ?_
    refine n_iast dX12_keepsPast_35 k_117 (h.2 q2).2.2.1 ?_
    refine n_iinc (lo' := [some (2, 113), some (0, v1 + 1)]) dX12_keepsPast_36 rfl (by decide) (h.2 q2).2.2.2.1 rfl ?_
    refine z_goto (tgt := 13) dX12_keepsPast_39 (by decide) ?_
    refine z_drop [some (2, 113), some (0, v1 + 1)] ⟨rfl, rfl, trivial⟩ ?_
    exact (h.2 q2).2.2.2.2
set_option maxRecDepth 20000 in
theorem V_X12_undo  {μ : z_Mem} {d : Nat} {K : Int → z_Mem → Prop} (h : (¬ μ 113 6 = 0 → z_I ((μ 113 6) - 1) ∧ (z_I (143 * ((z_st μ 113 6 ((μ 113 6) - 1)) 113 6)) ∧ (z_cn m_X12_moves [(2, 117), (0, 143 * ((z_st μ 113 6 ((μ 113 6) - 1)) 113 6)), (2, 114), (0, 0)] (z_st μ 113 6 ((μ 113 6) - 1)) d (fun m3 => K (m3 113 6) m3)))) ∧ (μ 113 6 = 0 → K (-1) μ)) : z_ci m_X12_undo [(2, 113)] μ (d + 1) K := by
  show z_R m_X12_undo 0 [some (2, 113)] [] z_n μ (d + 1) _
  refine z_aload_n dX12_undo_0 rfl ?_
  refine n_getf (ji := 6) (t := 0) dX12_undo_1 zf_X12_199 k_113 rfl (by decide) rfl ?_
  refine z_if_ne (tgt := 9) dX12_undo_4 (by decide) (fun q1 => ?_) (fun q2 => ?_)
  · refine z_aload_n dX12_undo_9 rfl ?_
    refine z_dup dX12_undo_10 rfl ?_
    refine n_getf (ji := 6) (t := 0) dX12_undo_11 zf_X12_199 k_113 rfl (by decide) rfl ?_
    refine z_iconst dX12_undo_14 ⟨by decide, by decide⟩ ?_
    refine z_isub dX12_undo_15 (h.1 q1).1 ?_
    refine n_putI (ji := 6) dX12_undo_16 zf_X12_199 k_113 rfl (by decide) rfl ?_
    refine z_aload_n dX12_undo_19 rfl ?_
    refine n_getp (ji := 3) dX12_undo_20 zf_X12_19 k_113 rfl (by decide) rfl p_113_3 ?_
    refine z_sipush dX12_undo_23 (by decide) ?_
    refine z_aload_n dX12_undo_26 rfl ?_
    refine n_getf (ji := 6) (t := 0) dX12_undo_27 zf_X12_199 k_113 rfl (by decide) rfl ?_
    refine z_imul dX12_undo_30 (h.1 q1).2.1 ?_
    refine z_aload_n dX12_undo_31 rfl ?_
    refine n_getp (ji := 0) dX12_undo_32 zf_X12_9 k_113 rfl (by decide) rfl p_113_0 ?_
    refine z_iconst dX12_undo_35 ⟨by decide, by decide⟩ ?_
    refine n_sN (as := [(2, 117), (0, 143 * ((z_st μ 113 6 ((μ 113 6) - 1)) 113 6)), (2, 114), (0, 0)]) (rest := []) dX12_undo_36 zm_X12_moves zs_X12_195 rfl rfl (Nat.le_of_ble_eq_true rfl) (Nat.le_of_ble_eq_true rfl) (h.1 q1).2.2 (fun m3 h4 => ?_)
    refine z_aload_n dX12_undo_39 rfl ?_
    refine n_getf (ji := 6) (t := 0) dX12_undo_40 zf_X12_199 k_113 rfl (by decide) rfl ?_
    exact z_ireturn dX12_undo_43 rfl rfl ⟨_, rfl, h4⟩
  · refine z_iconst dX12_undo_7 ⟨by decide, by decide⟩ ?_
    exact z_ireturn dX12_undo_8 rfl rfl ⟨_, rfl, (h.2 q2)⟩
set_option maxRecDepth 20000 in
theorem V_X12_keep {a : Int}  {μ : z_Mem} {d : Nat} {K : Int → z_Mem → Prop} (h : z_ci m_X12_in [(1, a), (1, 0), (1, 1)] μ d (fun x3 m1 => (¬ x3 = 0 → z_I (143 * a) ∧ (z_cn m_X12_moves [(2, 114), (0, 0), (2, 118), (0, 143 * a)] m1 d (fun m6 => ((0 : Int) ≤ a ∧ a < 2) ∧ (z_ci m_X12_hinges [(2, 113)] (z_st m6 119 a 1) d (fun x10 m8 => K x10 m8))))) ∧ (x3 = 0 → K (-1) m1))) : z_ci m_X12_keep [(2, 113), (0, a)] μ (d + 1) K := by
  show z_R m_X12_keep 0 [some (2, 113), some (0, a)] [] z_n μ (d + 1) _
  refine z_iload_n dX12_keep_0 rfl ?_
  refine z_i2l_ dX12_keep_1 ?_
  refine z_lconst0 dX12_keep_2 ?_
  refine z_lconst1 dX12_keep_3 ?_
  refine n_sI (as := [(1, a), (1, 0), (1, 1)]) (rest := []) dX12_keep_4 zm_X12_in zs_X12_143 rfl rfl (Nat.le_of_ble_eq_true rfl) (Nat.le_of_ble_eq_true rfl) h (fun x3 m1 h2 => ?_)
  refine z_if_ne (tgt := 12) dX12_keep_7 (by decide) (fun q4 => ?_) (fun q5 => ?_)
  · refine z_aload_n dX12_keep_12 rfl ?_
    refine n_getp (ji := 0) dX12_keep_13 zf_X12_9 k_113 rfl (by decide) rfl p_113_0 ?_
    refine z_iconst dX12_keep_16 ⟨by decide, by decide⟩ ?_
    refine z_aload_n dX12_keep_17 rfl ?_
    refine n_getp (ji := 4) dX12_keep_18 zf_X12_22 k_113 rfl (by decide) rfl p_113_4 ?_
    refine z_sipush dX12_keep_21 (by decide) ?_
    refine z_iload_n dX12_keep_24 rfl ?_
    refine z_imul dX12_keep_25 (h2.1 q4).1 ?_
    refine n_sN (as := [(2, 114), (0, 0), (2, 118), (0, 143 * a)]) (rest := []) dX12_keep_26 zm_X12_moves zs_X12_195 rfl rfl (Nat.le_of_ble_eq_true rfl) (Nat.le_of_ble_eq_true rfl) (h2.1 q4).2 (fun m6 h7 => ?_)
    refine z_aload_n dX12_keep_29 rfl ?_
    refine n_getp (ji := 5) dX12_keep_30 zf_X12_25 k_113 rfl (by decide) rfl p_113_5 ?_
    refine z_iload_n dX12_keep_33 rfl ?_
    refine z_iconst dX12_keep_34 ⟨by decide, by decide⟩ ?_
    refine n_zast dX12_keep_35 k_119 h7.1 (by decide) ?_
    refine z_aload_n dX12_keep_36 rfl ?_
    refine n_vI (as := []) (rest := []) dX12_keep_37 zm_X12_hinges zs_X12_254 k_113 (by decide) rfl rfl (Nat.le_of_ble_eq_true rfl) (Nat.le_of_ble_eq_true rfl) h7.2 (fun x10 m8 h9 => ?_)
    exact z_ireturn dX12_keep_40 rfl rfl ⟨_, rfl, h9⟩
  · refine z_iconst dX12_keep_10 ⟨by decide, by decide⟩ ?_
    exact z_ireturn dX12_keep_11 rfl rfl ⟨_, rfl, (h2.2 q5)⟩
set_option maxRecDepth 20000 in
theorem V_X12_back {a : Int}  {μ : z_Mem} {d : Nat} {K : Int → z_Mem → Prop} (h : z_ci m_X12_in [(1, a), (1, 0), (1, 1)] μ d (fun x3 m1 => (¬ x3 = 0 → ((0 : Int) ≤ a ∧ a < 2) ∧ ((¬ m1 119 a = 0 → z_I (143 * a) ∧ (z_cn m_X12_moves [(2, 118), (0, 143 * a), (2, 114), (0, 0)] m1 d (fun m8 => z_cn m_X12_laysSkin [(2, 113)] (z_st m8 113 6 0) d (fun m10 => z_ci m_X12_hinges [(2, 113)] m10 d (fun x14 m12 => K x14 m12))))) ∧ (m1 119 a = 0 → K (-2) m1))) ∧ (x3 = 0 → K (-1) m1))) : z_ci m_X12_back [(2, 113), (0, a)] μ (d + 1) K := by
  show z_R m_X12_back 0 [some (2, 113), some (0, a)] [] z_n μ (d + 1) _
  refine z_iload_n dX12_back_0 rfl ?_
  refine z_i2l_ dX12_back_1 ?_
  refine z_lconst0 dX12_back_2 ?_
  refine z_lconst1 dX12_back_3 ?_
  refine n_sI (as := [(1, a), (1, 0), (1, 1)]) (rest := []) dX12_back_4 zm_X12_in zs_X12_143 rfl rfl (Nat.le_of_ble_eq_true rfl) (Nat.le_of_ble_eq_true rfl) h (fun x3 m1 h2 => ?_)
  refine z_if_ne (tgt := 12) dX12_back_7 (by decide) (fun q4 => ?_) (fun q5 => ?_)
  · refine z_aload_n dX12_back_12 rfl ?_
    refine n_getp (ji := 5) dX12_back_13 zf_X12_25 k_113 rfl (by decide) rfl p_113_5 ?_
    refine z_iload_n dX12_back_16 rfl ?_
    refine n_zald dX12_back_17 k_119 (h2.1 q4).1 ?_
    refine z_if_ne (tgt := 24) dX12_back_18 (by decide) (fun q6 => ?_) (fun q7 => ?_)
    · refine z_aload_n dX12_back_24 rfl ?_
      refine n_getp (ji := 4) dX12_back_25 zf_X12_22 k_113 rfl (by decide) rfl p_113_4 ?_
      refine z_sipush dX12_back_28 (by decide) ?_
      refine z_iload_n dX12_back_31 rfl ?_
      refine z_imul dX12_back_32 ((h2.1 q4).2.1 q6).1 ?_
      refine z_aload_n dX12_back_33 rfl ?_
      refine n_getp (ji := 0) dX12_back_34 zf_X12_9 k_113 rfl (by decide) rfl p_113_0 ?_
      refine z_iconst dX12_back_37 ⟨by decide, by decide⟩ ?_
      refine n_sN (as := [(2, 118), (0, 143 * a), (2, 114), (0, 0)]) (rest := []) dX12_back_38 zm_X12_moves zs_X12_195 rfl rfl (Nat.le_of_ble_eq_true rfl) (Nat.le_of_ble_eq_true rfl) ((h2.1 q4).2.1 q6).2 (fun m8 h9 => ?_)
      refine z_aload_n dX12_back_41 rfl ?_
      refine z_iconst dX12_back_42 ⟨by decide, by decide⟩ ?_
      refine n_putI (ji := 6) dX12_back_43 zf_X12_199 k_113 rfl (by decide) rfl ?_
      refine z_aload_n dX12_back_46 rfl ?_
      refine n_vN (as := []) (rest := []) dX12_back_47 zm_X12_laysSkin zs_X12_202 k_113 (by decide) rfl rfl (Nat.le_of_ble_eq_true rfl) (Nat.le_of_ble_eq_true rfl) h9 (fun m10 h11 => ?_)
      refine z_aload_n dX12_back_50 rfl ?_
      refine n_vI (as := []) (rest := []) dX12_back_51 zm_X12_hinges zs_X12_254 k_113 (by decide) rfl rfl (Nat.le_of_ble_eq_true rfl) (Nat.le_of_ble_eq_true rfl) h11 (fun x14 m12 h13 => ?_)
      exact z_ireturn dX12_back_54 rfl rfl ⟨_, rfl, h13⟩
    · refine z_bipush dX12_back_21 (by decide) ?_
      exact z_ireturn dX12_back_23 rfl rfl ⟨_, rfl, ((h2.1 q4).2.2 q7)⟩
  · refine z_iconst dX12_back_10 ⟨by decide, by decide⟩ ?_
    exact z_ireturn dX12_back_11 rfl rfl ⟨_, rfl, (h2.2 q5)⟩
set_option maxRecDepth 20000 in
theorem V_X12_isEdge {a : Int}  {μ : z_Mem} {d : Nat} {K : Int → z_Mem → Prop} (h : z_I ((μ 113 22) - 1) ∧ (z_ci m_X12_in [(1, a), (1, 0), (1, (μ 113 22) - 1)] μ d (fun x3 m1 => (x3 = 0 ∨ x3 = 1) ∧ (K x3 m1)))) : z_ci m_X12_isEdge [(2, 113), (0, a)] μ (d + 1) K := by
  show z_R m_X12_isEdge 0 [some (2, 113), some (0, a)] [] z_n μ (d + 1) _
  refine z_iload_n dX12_isEdge_0 rfl ?_
  refine z_i2l_ dX12_isEdge_1 ?_
  refine z_lconst0 dX12_isEdge_2 ?_
  refine z_aload_n dX12_isEdge_3 rfl ?_
  refine n_getf (ji := 22) (t := 0) dX12_isEdge_4 zf_X12_245 k_113 rfl (by decide) rfl ?_
  refine z_iconst dX12_isEdge_7 ⟨by decide, by decide⟩ ?_
  refine z_isub dX12_isEdge_8 h.1 ?_
  refine z_i2l_ dX12_isEdge_9 ?_
  refine n_sI (as := [(1, a), (1, 0), (1, (μ 113 22) - 1)]) (rest := []) dX12_isEdge_10 zm_X12_in zs_X12_143 rfl rfl (Nat.le_of_ble_eq_true rfl) (Nat.le_of_ble_eq_true rfl) h.2 (fun x3 m1 h2 => ?_)
  exact z_zreturn dX12_isEdge_13 rfl rfl h2.1 ⟨_, rfl, h2.2⟩
set_option maxRecDepth 20000 in
theorem V_X12_isFace {a : Int}  {μ : z_Mem} {d : Nat} {K : Int → z_Mem → Prop} (h : z_I ((μ 113 21) - 1) ∧ (z_ci m_X12_in [(1, a), (1, 0), (1, (μ 113 21) - 1)] μ d (fun x3 m1 => (x3 = 0 ∨ x3 = 1) ∧ (K x3 m1)))) : z_ci m_X12_isFace [(2, 113), (0, a)] μ (d + 1) K := by
  show z_R m_X12_isFace 0 [some (2, 113), some (0, a)] [] z_n μ (d + 1) _
  refine z_iload_n dX12_isFace_0 rfl ?_
  refine z_i2l_ dX12_isFace_1 ?_
  refine z_lconst0 dX12_isFace_2 ?_
  refine z_aload_n dX12_isFace_3 rfl ?_
  refine n_getf (ji := 21) (t := 0) dX12_isFace_4 zf_X12_205 k_113 rfl (by decide) rfl ?_
  refine z_iconst dX12_isFace_7 ⟨by decide, by decide⟩ ?_
  refine z_isub dX12_isFace_8 h.1 ?_
  refine z_i2l_ dX12_isFace_9 ?_
  refine n_sI (as := [(1, a), (1, 0), (1, (μ 113 21) - 1)]) (rest := []) dX12_isFace_10 zm_X12_in zs_X12_143 rfl rfl (Nat.le_of_ble_eq_true rfl) (Nat.le_of_ble_eq_true rfl) h.2 (fun x3 m1 h2 => ?_)
  exact z_zreturn dX12_isFace_13 rfl rfl h2.1 ⟨_, rfl, h2.2⟩
set_option maxRecDepth 20000 in
theorem V_X12_isHinge {a : Int}  {μ : z_Mem} {d : Nat} {K : Int → z_Mem → Prop} (h : z_I (23 + a) ∧ (((0 : Int) ≤ 23 + a ∧ 23 + a < 143) ∧ ((¬ μ 114 (23 + a) = 1 → K 0 μ) ∧ (μ 114 (23 + a) = 1 → K 1 μ)))) : z_ci m_X12_isHinge [(2, 113), (0, a)] μ d K := by
  show z_R m_X12_isHinge 0 [some (2, 113), some (0, a)] [] z_n μ d _
  refine z_aload_n dX12_isHinge_0 rfl ?_
  refine n_getp (ji := 0) dX12_isHinge_1 zf_X12_9 k_113 rfl (by decide) rfl p_113_0 ?_
  refine z_bipush dX12_isHinge_4 (by decide) ?_
  refine z_iload_n dX12_isHinge_6 rfl ?_
  refine z_iadd dX12_isHinge_7 h.1 ?_
  refine n_iald dX12_isHinge_8 k_114 h.2.1 ?_
  refine z_iconst dX12_isHinge_9 ⟨by decide, by decide⟩ ?_
  refine z_icmp_ne (tgt := 17) dX12_isHinge_10 (by decide) (fun q1 => ?_) (fun q2 => ?_)
  · refine z_iconst dX12_isHinge_17 ⟨by decide, by decide⟩ ?_
    exact z_zreturn dX12_isHinge_18 rfl rfl (by decide) ⟨_, rfl, (h.2.2.1 q1)⟩
  · refine z_iconst dX12_isHinge_13 ⟨by decide, by decide⟩ ?_
    refine z_goto (tgt := 18) dX12_isHinge_14 (by decide) ?_
    exact z_zreturn dX12_isHinge_18 rfl rfl (by decide) ⟨_, rfl, (h.2.2.2 q2)⟩
set_option maxRecDepth 20000 in
theorem V_X12_hinges  {μ : z_Mem} {d : Nat} {K : Int → z_Mem → Prop} (h : z_ri m_X12_hinges 4 [some (2, 113), some (0, 0), some (0, 0)] μ d K) : z_ci m_X12_hinges [(2, 113)] μ d K := by
  show z_R m_X12_hinges 0 [some (2, 113), none, none] [] z_n μ d _
  refine z_iconst dX12_hinges_0 ⟨by decide, by decide⟩ ?_
  refine n_istore_n (lo' := [some (2, 113), some (0, 0), none]) dX12_hinges_1 ⟨Nat.le_of_ble_eq_true rfl, Nat.le_of_ble_eq_true rfl⟩ rfl ?_
  refine z_iconst dX12_hinges_2 ⟨by decide, by decide⟩ ?_
  refine n_istore_n (lo' := [some (2, 113), some (0, 0), some (0, 0)]) dX12_hinges_3 ⟨Nat.le_of_ble_eq_true rfl, Nat.le_of_ble_eq_true rfl⟩ rfl ?_
  refine z_drop [some (2, 113), some (0, 0), some (0, 0)] ⟨rfl, rfl, rfl, trivial⟩ ?_
  exact h
set_option maxRecDepth 20000 in
theorem V_X12_hinges_4 {v1 v2 : Int}  {μ : z_Mem} {d : Nat} {K : Int → z_Mem → Prop} (h : (μ 113 22 ≤ v2 → K v1 μ) ∧ (v2 < μ 113 22 → z_I (23 + v2) ∧ (((0 : Int) ≤ 23 + v2 ∧ 23 + v2 < 143) ∧ (z_I (v1 + (μ 114 (23 + v2))) ∧ (z_I (v2 + 1) ∧ (z_ri m_X12_hinges 4 [some (2, 113), some (0, v1 + (μ 114 (23 + v2))), some (0, v2 + 1)] μ d K)))))) : z_ri m_X12_hinges 4 [some (2, 113), some (0, v1), some (0, v2)] μ d K := by
  show z_R m_X12_hinges 4 [some (2, 113), some (0, v1), some (0, v2)] [] z_n μ d _
  refine z_iload_n dX12_hinges_4 rfl ?_
  refine z_aload_n dX12_hinges_5 rfl ?_
  refine n_getf (ji := 22) (t := 0) dX12_hinges_6 zf_X12_245 k_113 rfl (by decide) rfl ?_
  refine z_icmp_ge (tgt := 30) dX12_hinges_9 (by decide) (fun q1 => ?_) (fun q2 => ?_)
  · refine z_iload_n dX12_hinges_30 rfl ?_
    exact z_ireturn dX12_hinges_31 rfl rfl ⟨_, rfl, (h.1 q1)⟩
  · refine z_iload_n dX12_hinges_12 rfl ?_
    refine z_aload_n dX12_hinges_13 rfl ?_
    refine n_getp (ji := 0) dX12_hinges_14 zf_X12_9 k_113 rfl (by decide) rfl p_113_0 ?_
    refine z_bipush dX12_hinges_17 (by decide) ?_
    refine z_iload_n dX12_hinges_19 rfl ?_
    refine z_iadd dX12_hinges_20 (h.2 q2).1 ?_
    refine n_iald dX12_hinges_21 k_114 (h.2 q2).2.1 ?_
    refine z_iadd dX12_hinges_22 (h.2 q2).2.2.1 ?_
    refine n_istore_n (lo' := [some (2, 113), some (0, v1 + (μ 114 (23 + v2))), some (0, v2)]) dX12_hinges_23 ⟨Nat.le_of_ble_eq_true rfl, Nat.le_of_ble_eq_true rfl⟩ rfl ?_
    refine n_iinc (lo' := [some (2, 113), some (0, v1 + (μ 114 (23 + v2))), some (0, v2 + 1)]) dX12_hinges_24 rfl (by decide) (h.2 q2).2.2.2.1 rfl ?_
    refine z_goto (tgt := 4) dX12_hinges_27 (by decide) ?_
    refine z_drop [some (2, 113), some (0, v1 + (μ 114 (23 + v2))), some (0, v2 + 1)] ⟨rfl, rfl, rfl, trivial⟩ ?_
    exact (h.2 q2).2.2.2.2
set_option maxRecDepth 20000 in
theorem V_X12_firstOf {a : Int}  {μ : z_Mem} {d : Nat} {K : Int → z_Mem → Prop} (h : ((0 : Int) ≤ a ∧ a < 60) ∧ (((0 : Int) ≤ μ 127 a) ∧ (K ((μ 127 a) / 4) μ))) : z_ci m_X12_firstOf [(2, 113), (0, a)] μ d K := by
  show z_R m_X12_firstOf 0 [some (2, 113), some (0, a)] [] z_n μ d _
  refine z_aload_n dX12_firstOf_0 rfl ?_
  refine n_getp (ji := 18) dX12_firstOf_1 zf_X12_51 k_113 rfl (by decide) rfl p_113_18 ?_
  refine z_iload_n dX12_firstOf_4 rfl ?_
  refine n_iald dX12_firstOf_5 k_127 h.1 ?_
  refine z_iconst dX12_firstOf_6 ⟨by decide, by decide⟩ ?_
  refine z_idiv dX12_firstOf_7 h.2.1 (by decide) ?_
  exact z_ireturn dX12_firstOf_8 rfl rfl ⟨_, rfl, h.2.2⟩
set_option maxRecDepth 20000 in
theorem V_X12_secondOf {a : Int}  {μ : z_Mem} {d : Nat} {K : Int → z_Mem → Prop} (h : ((0 : Int) ≤ a ∧ a < 60) ∧ (((0 : Int) ≤ μ 127 a ∧ μ 127 a < 120) ∧ (K (μ 123 (μ 127 a)) μ))) : z_ci m_X12_secondOf [(2, 113), (0, a)] μ d K := by
  show z_R m_X12_secondOf 0 [some (2, 113), some (0, a)] [] z_n μ d _
  refine z_aload_n dX12_secondOf_0 rfl ?_
  refine n_getp (ji := 14) dX12_secondOf_1 zf_X12_39 k_113 rfl (by decide) rfl p_113_14 ?_
  refine z_aload_n dX12_secondOf_4 rfl ?_
  refine n_getp (ji := 18) dX12_secondOf_5 zf_X12_51 k_113 rfl (by decide) rfl p_113_18 ?_
  refine z_iload_n dX12_secondOf_8 rfl ?_
  refine n_iald dX12_secondOf_9 k_127 h.1 ?_
  refine n_iald dX12_secondOf_10 k_123 h.2.1 ?_
  exact z_ireturn dX12_secondOf_11 rfl rfl ⟨_, rfl, h.2.2⟩
set_option maxRecDepth 20000 in
theorem V_X12_joins {a : Int}  {μ : z_Mem} {d : Nat} {K : Int → z_Mem → Prop} (h : z_ri m_X12_joins 2 [some (2, 113), some (0, a), some (0, 0), none, none, none] μ (d + 1) K) : z_ci m_X12_joins [(2, 113), (0, a)] μ (d + 1) K := by
  show z_R m_X12_joins 0 [some (2, 113), some (0, a), none, none, none, none] [] z_n μ (d + 1) _
  refine z_iconst dX12_joins_0 ⟨by decide, by decide⟩ ?_
  refine n_istore_n (lo' := [some (2, 113), some (0, a), some (0, 0), none, none, none]) dX12_joins_1 ⟨Nat.le_of_ble_eq_true rfl, Nat.le_of_ble_eq_true rfl⟩ rfl ?_
  refine z_drop [some (2, 113), some (0, a), some (0, 0), none, none, none] ⟨rfl, rfl, rfl, trivial⟩ ?_
  exact h
set_option maxRecDepth 20000 in
theorem V_X12_joins_2 {v1 v2 : Int}  {μ : z_Mem} {d : Nat} {K : Int → z_Mem → Prop} (h : (μ 113 21 ≤ v2 → ((0 : Int) ≤ v1 ∧ v1 < 30) ∧ (((0 : Int) ≤ v1 ∧ v1 < 30) ∧ (z_ri m_X12_joins 48 [some (2, 113), none, some (0, 1), some (0, 0), none, none] (z_st (z_st (z_st μ 130 v1 1) 131 0 v1) 132 v1 (-1)) (d + 1) K))) ∧ (v2 < μ 113 21 → ((0 : Int) ≤ v2 ∧ v2 < 30) ∧ (z_I (v2 + 1) ∧ (z_ri m_X12_joins 2 [some (2, 113), some (0, v1), some (0, v2 + 1), none, none, none] (z_st μ 130 v2 0) (d + 1) K)))) : z_ri m_X12_joins 2 [some (2, 113), some (0, v1), some (0, v2), none, none, none] μ (d + 1) K := by
  show z_R m_X12_joins 2 [some (2, 113), some (0, v1), some (0, v2), none, none, none] [] z_n μ (d + 1) _
  refine z_iload_n dX12_joins_2 rfl ?_
  refine z_aload_n dX12_joins_3 rfl ?_
  refine n_getf (ji := 21) (t := 0) dX12_joins_4 zf_X12_205 k_113 rfl (by decide) rfl ?_
  refine z_icmp_ge (tgt := 23) dX12_joins_7 (by decide) (fun q1 => ?_) (fun q2 => ?_)
  · refine z_aload_n dX12_joins_23 rfl ?_
    refine n_getp (ji := 24) dX12_joins_24 zf_X12_60 k_113 rfl (by decide) rfl p_113_24 ?_
    refine z_iload_n dX12_joins_27 rfl ?_
    refine z_iconst dX12_joins_28 ⟨by decide, by decide⟩ ?_
    refine n_zast dX12_joins_29 k_130 (h.1 q1).1 (by decide) ?_
    refine z_aload_n dX12_joins_30 rfl ?_
    refine n_getp (ji := 25) dX12_joins_31 zf_X12_63 k_113 rfl (by decide) rfl p_113_25 ?_
    refine z_iconst dX12_joins_34 ⟨by decide, by decide⟩ ?_
    refine z_iload_n dX12_joins_35 rfl ?_
    refine n_iast dX12_joins_36 k_131 (by decide) ?_
    refine z_aload_n dX12_joins_37 rfl ?_
    refine n_getp (ji := 26) dX12_joins_38 zf_X12_66 k_113 rfl (by decide) rfl p_113_26 ?_
    refine z_iload_n dX12_joins_41 rfl ?_
    refine z_iconst dX12_joins_42 ⟨by decide, by decide⟩ ?_
    refine n_iast dX12_joins_43 k_132 (h.1 q1).2.1 ?_
    refine z_iconst dX12_joins_44 ⟨by decide, by decide⟩ ?_
    refine n_istore_n (lo' := [some (2, 113), some (0, v1), some (0, 1), none, none, none]) dX12_joins_45 ⟨Nat.le_of_ble_eq_true rfl, Nat.le_of_ble_eq_true rfl⟩ rfl ?_
    refine z_iconst dX12_joins_46 ⟨by decide, by decide⟩ ?_
    refine n_istore_n (lo' := [some (2, 113), some (0, v1), some (0, 1), some (0, 0), none, none]) dX12_joins_47 ⟨Nat.le_of_ble_eq_true rfl, Nat.le_of_ble_eq_true rfl⟩ rfl ?_
    refine z_drop [some (2, 113), none, some (0, 1), some (0, 0), none, none] ⟨rfl, rfl, rfl, trivial⟩ ?_
    exact (h.1 q1).2.2
  · refine z_aload_n dX12_joins_10 rfl ?_
    refine n_getp (ji := 24) dX12_joins_11 zf_X12_60 k_113 rfl (by decide) rfl p_113_24 ?_
    refine z_iload_n dX12_joins_14 rfl ?_
    refine z_iconst dX12_joins_15 ⟨by decide, by decide⟩ ?_
    refine n_zast dX12_joins_16 k_130 (h.2 q2).1 (by decide) ?_
    refine n_iinc (lo' := [some (2, 113), some (0, v1), some (0, v2 + 1), none, none, none]) dX12_joins_17 rfl (by decide) (h.2 q2).2.1 rfl ?_
    refine z_goto (tgt := 2) dX12_joins_20 (by decide) ?_
    refine z_drop [some (2, 113), some (0, v1), some (0, v2 + 1), none, none, none] ⟨rfl, rfl, rfl, trivial⟩ ?_
    exact (h.2 q2).2.2
set_option maxRecDepth 20000 in
theorem V_X12_joins_48 {v2 v3 : Int}  {μ : z_Mem} {d : Nat} {K : Int → z_Mem → Prop} (h : (v2 ≤ v3 → K v2 μ) ∧ (v3 < v2 → z_ri m_X12_joins 56 [some (2, 113), none, some (0, v2), some (0, v3), some (0, 0), none] μ (d + 1) K)) : z_ri m_X12_joins 48 [some (2, 113), none, some (0, v2), some (0, v3), none, none] μ (d + 1) K := by
  show z_R m_X12_joins 48 [some (2, 113), none, some (0, v2), some (0, v3), none, none] [] z_n μ (d + 1) _
  refine z_iload_n dX12_joins_48 rfl ?_
  refine z_iload_n dX12_joins_49 rfl ?_
  refine z_icmp_ge (tgt := 159) dX12_joins_50 (by decide) (fun q1 => ?_) (fun q2 => ?_)
  · refine z_iload_n dX12_joins_159 rfl ?_
    exact z_ireturn dX12_joins_160 rfl rfl ⟨_, rfl, (h.1 q1)⟩
  · refine z_iconst dX12_joins_53 ⟨by decide, by decide⟩ ?_
    refine n_istore (lo' := [some (2, 113), none, some (0, v2), some (0, v3), some (0, 0), none]) dX12_joins_54 ⟨Nat.le_of_ble_eq_true rfl, Nat.le_of_ble_eq_true rfl⟩ rfl ?_
    refine z_drop [some (2, 113), none, some (0, v2), some (0, v3), some (0, 0), none] ⟨rfl, rfl, rfl, rfl, trivial⟩ ?_
    exact (h.2 q2)
set_option maxRecDepth 20000 in
theorem V_X12_joins_56 {v2 v3 v4 : Int}  {μ : z_Mem} {d : Nat} {K : Int → z_Mem → Prop} (h : (4 ≤ v4 → z_I (v3 + 1) ∧ (z_ri m_X12_joins 48 [some (2, 113), none, some (0, v2), some (0, v3 + 1), none, none] μ (d + 1) K)) ∧ (v4 < 4 → ((0 : Int) ≤ v3 ∧ v3 < 30) ∧ (z_I (4 * (μ 131 v3)) ∧ (z_I ((4 * (μ 131 v3)) + v4) ∧ (((0 : Int) ≤ (4 * (μ 131 v3)) + v4 ∧ (4 * (μ 131 v3)) + v4 < 120) ∧ (z_ci m_X12_isHinge [(2, 113), (0, μ 126 ((4 * (μ 131 v3)) + v4))] μ d (fun x5 m3 => (x5 = 0 → z_I (v4 + 1) ∧ (z_ri m_X12_joins 56 [some (2, 113), none, some (0, v2), some (0, v3), some (0, v4 + 1), none] m3 (d + 1) K)) ∧ (¬ x5 = 0 → ((0 : Int) ≤ (4 * (μ 131 v3)) + v4 ∧ (4 * (μ 131 v3)) + v4 < 120) ∧ (((0 : Int) ≤ m3 123 ((4 * (μ 131 v3)) + v4) ∧ m3 123 ((4 * (μ 131 v3)) + v4) < 30) ∧ ((¬ m3 130 (m3 123 ((4 * (μ 131 v3)) + v4)) = 0 → z_I (v4 + 1) ∧ (z_ri m_X12_joins 56 [some (2, 113), none, some (0, v2), some (0, v3), some (0, v4 + 1), none] m3 (d + 1) K)) ∧ (m3 130 (m3 123 ((4 * (μ 131 v3)) + v4)) = 0 → ((0 : Int) ≤ (4 * (μ 131 v3)) + v4 ∧ (4 * (μ 131 v3)) + v4 < 120) ∧ (((0 : Int) ≤ m3 123 ((4 * (μ 131 v3)) + v4) ∧ m3 123 ((4 * (μ 131 v3)) + v4) < 30) ∧ (((0 : Int) ≤ (4 * (μ 131 v3)) + v4 ∧ (4 * (μ 131 v3)) + v4 < 120) ∧ (((0 : Int) ≤ (z_st m3 130 (m3 123 ((4 * (μ 131 v3)) + v4)) 1) 123 ((4 * (μ 131 v3)) + v4) ∧ (z_st m3 130 (m3 123 ((4 * (μ 131 v3)) + v4)) 1) 123 ((4 * (μ 131 v3)) + v4) < 30) ∧ (((0 : Int) ≤ (4 * (μ 131 v3)) + v4 ∧ (4 * (μ 131 v3)) + v4 < 120) ∧ (((0 : Int) ≤ v2 ∧ v2 < 30) ∧ (z_I (v2 + 1) ∧ (z_I (v4 + 1) ∧ (z_ri m_X12_joins 56 [some (2, 113), none, some (0, v2 + 1), some (0, v3), some (0, v4 + 1), none] (z_st (z_st (z_st m3 130 (m3 123 ((4 * (μ 131 v3)) + v4)) 1) 132 ((z_st m3 130 (m3 123 ((4 * (μ 131 v3)) + v4)) 1) 123 ((4 * (μ 131 v3)) + v4)) ((4 * (μ 131 v3)) + v4)) 131 v2 ((z_st (z_st m3 130 (m3 123 ((4 * (μ 131 v3)) + v4)) 1) 132 ((z_st m3 130 (m3 123 ((4 * (μ 131 v3)) + v4)) 1) 123 ((4 * (μ 131 v3)) + v4)) ((4 * (μ 131 v3)) + v4)) 123 ((4 * (μ 131 v3)) + v4))) (d + 1) K))))))))))))))))))) : z_ri m_X12_joins 56 [some (2, 113), none, some (0, v2), some (0, v3), some (0, v4), none] μ (d + 1) K := by
  show z_R m_X12_joins 56 [some (2, 113), none, some (0, v2), some (0, v3), some (0, v4), none] [] z_n μ (d + 1) _
  refine z_iload dX12_joins_56 rfl ?_
  refine z_iconst dX12_joins_58 ⟨by decide, by decide⟩ ?_
  refine z_icmp_ge (tgt := 153) dX12_joins_59 (by decide) (fun q1 => ?_) (fun q2 => ?_)
  · refine n_iinc (lo' := [some (2, 113), none, some (0, v2), some (0, v3 + 1), some (0, v4), none]) dX12_joins_153 rfl (by decide) (h.1 q1).1 rfl ?_
    refine z_goto (tgt := 48) dX12_joins_156 (by decide) ?_
    refine z_drop [some (2, 113), none, some (0, v2), some (0, v3 + 1), none, none] ⟨rfl, rfl, rfl, trivial⟩ ?_
    exact (h.1 q1).2
  · refine z_iconst dX12_joins_62 ⟨by decide, by decide⟩ ?_
    refine z_aload_n dX12_joins_63 rfl ?_
    refine n_getp (ji := 25) dX12_joins_64 zf_X12_63 k_113 rfl (by decide) rfl p_113_25 ?_
    refine z_iload_n dX12_joins_67 rfl ?_
    refine n_iald dX12_joins_68 k_131 (h.2 q2).1 ?_
    refine z_imul dX12_joins_69 (h.2 q2).2.1 ?_
    refine z_iload dX12_joins_70 rfl ?_
    refine z_iadd dX12_joins_72 (h.2 q2).2.2.1 ?_
    refine n_istore (lo' := [some (2, 113), none, some (0, v2), some (0, v3), some (0, v4), some (0, (4 * (μ 131 v3)) + v4)]) dX12_joins_73 ⟨Nat.le_of_ble_eq_true rfl, Nat.le_of_ble_eq_true rfl⟩ rfl ?_
    refine z_aload_n dX12_joins_75 rfl ?_
    refine z_aload_n dX12_joins_76 rfl ?_
    refine n_getp (ji := 17) dX12_joins_77 zf_X12_48 k_113 rfl (by decide) rfl p_113_17 ?_
    refine z_iload dX12_joins_80 rfl ?_
    refine n_iald dX12_joins_82 k_126 (h.2 q2).2.2.2.1 ?_
    refine n_vI (as := [(0, μ 126 ((4 * (μ 131 v3)) + v4))]) (rest := []) dX12_joins_83 zm_X12_isHinge zs_X12_257 k_113 (by decide) rfl rfl (Nat.le_of_ble_eq_true rfl) (Nat.le_of_ble_eq_true rfl) (h.2 q2).2.2.2.2 (fun x5 m3 h4 => ?_)
    refine z_if_eq (tgt := 147) dX12_joins_86 (by decide) (fun q6 => ?_) (fun q7 => ?_)
    · refine n_iinc (lo' := [some (2, 113), none, some (0, v2), some (0, v3), some (0, v4 + 1), some (0, (4 * (μ 131 v3)) + v4)]) dX12_joins_147 rfl (by decide) (h4.1 q6).1 rfl ?_
      refine z_goto (tgt := 56) dX12_joins_150 (by decide) ?_
      refine z_drop [some (2, 113), none, some (0, v2), some (0, v3), some (0, v4 + 1), none] ⟨rfl, rfl, rfl, rfl, trivial⟩ ?_
      exact (h4.1 q6).2
    · refine z_aload_n dX12_joins_89 rfl ?_
      refine n_getp (ji := 24) dX12_joins_90 zf_X12_60 k_113 rfl (by decide) rfl p_113_24 ?_
      refine z_aload_n dX12_joins_93 rfl ?_
      refine n_getp (ji := 14) dX12_joins_94 zf_X12_39 k_113 rfl (by decide) rfl p_113_14 ?_
      refine z_iload dX12_joins_97 rfl ?_
      refine n_iald dX12_joins_99 k_123 (h4.2 q7).1 ?_
      refine n_zald dX12_joins_100 k_130 (h4.2 q7).2.1 ?_
      refine z_if_ne (tgt := 147) dX12_joins_101 (by decide) (fun q8 => ?_) (fun q9 => ?_)
      · refine n_iinc (lo' := [some (2, 113), none, some (0, v2), some (0, v3), some (0, v4 + 1), some (0, (4 * (μ 131 v3)) + v4)]) dX12_joins_147 rfl (by decide) ((h4.2 q7).2.2.1 q8).1 rfl ?_
        refine z_goto (tgt := 56) dX12_joins_150 (by decide) ?_
        refine z_drop [some (2, 113), none, some (0, v2), some (0, v3), some (0, v4 + 1), none] ⟨rfl, rfl, rfl, rfl, trivial⟩ ?_
        exact ((h4.2 q7).2.2.1 q8).2
      · refine z_aload_n dX12_joins_104 rfl ?_
        refine n_getp (ji := 24) dX12_joins_105 zf_X12_60 k_113 rfl (by decide) rfl p_113_24 ?_
        refine z_aload_n dX12_joins_108 rfl ?_
        refine n_getp (ji := 14) dX12_joins_109 zf_X12_39 k_113 rfl (by decide) rfl p_113_14 ?_
        refine z_iload dX12_joins_112 rfl ?_
        refine n_iald dX12_joins_114 k_123 ((h4.2 q7).2.2.2 q9).1 ?_
        refine z_iconst dX12_joins_115 ⟨by decide, by decide⟩ ?_
        refine n_zast dX12_joins_116 k_130 ((h4.2 q7).2.2.2 q9).2.1 (by decide) ?_
        refine z_aload_n dX12_joins_117 rfl ?_
        refine n_getp (ji := 26) dX12_joins_118 zf_X12_66 k_113 rfl (by decide) rfl p_113_26 ?_
        refine z_aload_n dX12_joins_121 rfl ?_
        refine n_getp (ji := 14) dX12_joins_122 zf_X12_39 k_113 rfl (by decide) rfl p_113_14 ?_
        refine z_iload dX12_joins_125 rfl ?_
        refine n_iald dX12_joins_127 k_123 ((h4.2 q7).2.2.2 q9).2.2.1 ?_
        refine z_iload dX12_joins_128 rfl ?_
        refine n_iast dX12_joins_130 k_132 ((h4.2 q7).2.2.2 q9).2.2.2.1 ?_
        refine z_aload_n dX12_joins_131 rfl ?_
        refine n_getp (ji := 25) dX12_joins_132 zf_X12_63 k_113 rfl (by decide) rfl p_113_25 ?_
        refine z_iload_n dX12_joins_135 rfl ?_
        refine z_aload_n dX12_joins_136 rfl ?_
        refine n_getp (ji := 14) dX12_joins_137 zf_X12_39 k_113 rfl (by decide) rfl p_113_14 ?_
        refine z_iload dX12_joins_140 rfl ?_
        refine n_iald dX12_joins_142 k_123 ((h4.2 q7).2.2.2 q9).2.2.2.2.1 ?_
        refine n_iast dX12_joins_143 k_131 ((h4.2 q7).2.2.2 q9).2.2.2.2.2.1 ?_
        refine n_iinc (lo' := [some (2, 113), none, some (0, v2 + 1), some (0, v3), some (0, v4), some (0, (4 * (μ 131 v3)) + v4)]) dX12_joins_144 rfl (by decide) ((h4.2 q7).2.2.2 q9).2.2.2.2.2.2.1 rfl ?_
        refine n_iinc (lo' := [some (2, 113), none, some (0, v2 + 1), some (0, v3), some (0, v4 + 1), some (0, (4 * (μ 131 v3)) + v4)]) dX12_joins_147 rfl (by decide) ((h4.2 q7).2.2.2 q9).2.2.2.2.2.2.2.1 rfl ?_
        refine z_goto (tgt := 56) dX12_joins_150 (by decide) ?_
        refine z_drop [some (2, 113), none, some (0, v2 + 1), some (0, v3), some (0, v4 + 1), none] ⟨rfl, rfl, rfl, rfl, trivial⟩ ?_
        exact ((h4.2 q7).2.2.2 q9).2.2.2.2.2.2.2.2
set_option maxRecDepth 20000 in
theorem V_X12_areJoined {a b : Int}  {μ : z_Mem} {d : Nat} {K : Int → z_Mem → Prop} (h : z_ci m_X12_joins [(2, 113), (0, a)] μ d (fun x3 m1 => ((0 : Int) ≤ b ∧ b < 30) ∧ ((m1 130 b = 0 ∨ m1 130 b = 1) ∧ (K (m1 130 b) m1)))) : z_ci m_X12_areJoined [(2, 113), (0, a), (0, b)] μ (d + 1) K := by
  show z_R m_X12_areJoined 0 [some (2, 113), some (0, a), some (0, b)] [] z_n μ (d + 1) _
  refine z_aload_n dX12_areJoined_0 rfl ?_
  refine z_iload_n dX12_areJoined_1 rfl ?_
  refine n_vI (as := [(0, a)]) (rest := []) dX12_areJoined_2 zm_X12_joins zs_X12_260 k_113 (by decide) rfl rfl (Nat.le_of_ble_eq_true rfl) (Nat.le_of_ble_eq_true rfl) h (fun x3 m1 h2 => ?_)
  refine z_pop dX12_areJoined_5 rfl ?_
  refine z_aload_n dX12_areJoined_6 rfl ?_
  refine n_getp (ji := 24) dX12_areJoined_7 zf_X12_60 k_113 rfl (by decide) rfl p_113_24 ?_
  refine z_iload_n dX12_areJoined_10 rfl ?_
  refine n_zald dX12_areJoined_11 k_130 h2.1 ?_
  exact z_zreturn dX12_areJoined_12 rfl rfl h2.2.1 ⟨_, rfl, h2.2.2⟩
set_option maxRecDepth 20000 in
theorem V_X12_isWhole  {μ : z_Mem} {d : Nat} {K : Int → z_Mem → Prop} (h : (μ 113 21 ≤ 0 → K 0 μ) ∧ (0 < μ 113 21 → z_ci m_X12_joins [(2, 113), (0, 0)] μ d (fun x5 m3 => (¬ x5 = m3 113 21 → K 0 m3) ∧ (x5 = m3 113 21 → K 1 m3)))) : z_ci m_X12_isWhole [(2, 113)] μ (d + 1) K := by
  show z_R m_X12_isWhole 0 [some (2, 113)] [] z_n μ (d + 1) _
  refine z_aload_n dX12_isWhole_0 rfl ?_
  refine n_getf (ji := 21) (t := 0) dX12_isWhole_1 zf_X12_205 k_113 rfl (by decide) rfl ?_
  refine z_if_le (tgt := 23) dX12_isWhole_4 (by decide) (fun q1 => ?_) (fun q2 => ?_)
  · refine z_iconst dX12_isWhole_23 ⟨by decide, by decide⟩ ?_
    exact z_zreturn dX12_isWhole_24 rfl rfl (by decide) ⟨_, rfl, (h.1 q1)⟩
  · refine z_aload_n dX12_isWhole_7 rfl ?_
    refine z_iconst dX12_isWhole_8 ⟨by decide, by decide⟩ ?_
    refine n_vI (as := [(0, 0)]) (rest := []) dX12_isWhole_9 zm_X12_joins zs_X12_260 k_113 (by decide) rfl rfl (Nat.le_of_ble_eq_true rfl) (Nat.le_of_ble_eq_true rfl) (h.2 q2) (fun x5 m3 h4 => ?_)
    refine z_aload_n dX12_isWhole_12 rfl ?_
    refine n_getf (ji := 21) (t := 0) dX12_isWhole_13 zf_X12_205 k_113 rfl (by decide) rfl ?_
    refine z_icmp_ne (tgt := 23) dX12_isWhole_16 (by decide) (fun q6 => ?_) (fun q7 => ?_)
    · refine z_iconst dX12_isWhole_23 ⟨by decide, by decide⟩ ?_
      exact z_zreturn dX12_isWhole_24 rfl rfl (by decide) ⟨_, rfl, (h4.1 q6)⟩
    · refine z_iconst dX12_isWhole_19 ⟨by decide, by decide⟩ ?_
      refine z_goto (tgt := 24) dX12_isWhole_20 (by decide) ?_
      exact z_zreturn dX12_isWhole_24 rfl rfl (by decide) ⟨_, rfl, (h4.2 q7)⟩
set_option maxRecDepth 20000 in
theorem V_X12_hinge {a : Int}  {μ : z_Mem} {d : Nat} {K : Int → z_Mem → Prop} (h : z_ci m_X12_isEdge [(2, 113), (0, a)] μ d (fun x3 m1 => (¬ x3 = 0 → z_ci m_X12_isHinge [(2, 113), (0, a)] m1 d (fun x8 m6 => (x8 = 0 → z_ci m_X12_firstOf [(2, 113), (0, a)] m6 d (fun x13 m11 => z_ci m_X12_secondOf [(2, 113), (0, a)] m11 d (fun x16 m14 => z_ci m_X12_areJoined [(2, 113), (0, x13), (0, x16)] m14 d (fun x19 m17 => (x19 = 0 → z_cn m_X12_keepsPast [(2, 113)] m17 d (fun m22 => z_I (23 + a) ∧ (((0 : Int) ≤ 23 + a ∧ 23 + a < 143) ∧ (z_ci m_X12_hinges [(2, 113)] (z_st m22 114 (23 + a) 1) d (fun x26 m24 => K x26 m24))))) ∧ (¬ x19 = 0 → K (-3) m17))))) ∧ (¬ x8 = 0 → K (-2) m6))) ∧ (x3 = 0 → K (-1) m1))) : z_ci m_X12_hinge [(2, 113), (0, a)] μ (d + 1) K := by
  show z_R m_X12_hinge 0 [some (2, 113), some (0, a)] [] z_n μ (d + 1) _
  refine z_aload_n dX12_hinge_0 rfl ?_
  refine z_iload_n dX12_hinge_1 rfl ?_
  refine n_vI (as := [(0, a)]) (rest := []) dX12_hinge_2 zm_X12_isEdge zs_X12_263 k_113 (by decide) rfl rfl (Nat.le_of_ble_eq_true rfl) (Nat.le_of_ble_eq_true rfl) h (fun x3 m1 h2 => ?_)
  refine z_if_ne (tgt := 10) dX12_hinge_5 (by decide) (fun q4 => ?_) (fun q5 => ?_)
  · refine z_aload_n dX12_hinge_10 rfl ?_
    refine z_iload_n dX12_hinge_11 rfl ?_
    refine n_vI (as := [(0, a)]) (rest := []) dX12_hinge_12 zm_X12_isHinge zs_X12_257 k_113 (by decide) rfl rfl (Nat.le_of_ble_eq_true rfl) (Nat.le_of_ble_eq_true rfl) (h2.1 q4) (fun x8 m6 h7 => ?_)
    refine z_if_eq (tgt := 21) dX12_hinge_15 (by decide) (fun q9 => ?_) (fun q10 => ?_)
    · refine z_aload_n dX12_hinge_21 rfl ?_
      refine z_aload_n dX12_hinge_22 rfl ?_
      refine z_iload_n dX12_hinge_23 rfl ?_
      refine n_vI (as := [(0, a)]) (rest := [(2, 113)]) dX12_hinge_24 zm_X12_firstOf zs_X12_266 k_113 (by decide) rfl rfl (Nat.le_of_ble_eq_true rfl) (Nat.le_of_ble_eq_true rfl) (h7.1 q9) (fun x13 m11 h12 => ?_)
      refine z_aload_n dX12_hinge_27 rfl ?_
      refine z_iload_n dX12_hinge_28 rfl ?_
      refine n_vI (as := [(0, a)]) (rest := [(0, x13), (2, 113)]) dX12_hinge_29 zm_X12_secondOf zs_X12_269 k_113 (by decide) rfl rfl (Nat.le_of_ble_eq_true rfl) (Nat.le_of_ble_eq_true rfl) h12 (fun x16 m14 h15 => ?_)
      refine n_vI (as := [(0, x13), (0, x16)]) (rest := []) dX12_hinge_32 zm_X12_areJoined zs_X12_272 k_113 (by decide) rfl rfl (Nat.le_of_ble_eq_true rfl) (Nat.le_of_ble_eq_true rfl) h15 (fun x19 m17 h18 => ?_)
      refine z_if_eq (tgt := 41) dX12_hinge_35 (by decide) (fun q20 => ?_) (fun q21 => ?_)
      · refine z_aload_n dX12_hinge_41 rfl ?_
        refine n_vN (as := []) (rest := []) dX12_hinge_42 zm_X12_keepsPast zs_X12_275 k_113 (by decide) rfl rfl (Nat.le_of_ble_eq_true rfl) (Nat.le_of_ble_eq_true rfl) (h18.1 q20) (fun m22 h23 => ?_)
        refine z_aload_n dX12_hinge_45 rfl ?_
        refine n_getp (ji := 0) dX12_hinge_46 zf_X12_9 k_113 rfl (by decide) rfl p_113_0 ?_
        refine z_bipush dX12_hinge_49 (by decide) ?_
        refine z_iload_n dX12_hinge_51 rfl ?_
        refine z_iadd dX12_hinge_52 h23.1 ?_
        refine z_iconst dX12_hinge_53 ⟨by decide, by decide⟩ ?_
        refine n_iast dX12_hinge_54 k_114 h23.2.1 ?_
        refine z_aload_n dX12_hinge_55 rfl ?_
        refine n_vI (as := []) (rest := []) dX12_hinge_56 zm_X12_hinges zs_X12_254 k_113 (by decide) rfl rfl (Nat.le_of_ble_eq_true rfl) (Nat.le_of_ble_eq_true rfl) h23.2.2 (fun x26 m24 h25 => ?_)
        exact z_ireturn dX12_hinge_59 rfl rfl ⟨_, rfl, h25⟩
      · refine z_bipush dX12_hinge_38 (by decide) ?_
        exact z_ireturn dX12_hinge_40 rfl rfl ⟨_, rfl, (h18.2 q21)⟩
    · refine z_bipush dX12_hinge_18 (by decide) ?_
      exact z_ireturn dX12_hinge_20 rfl rfl ⟨_, rfl, (h7.2 q10)⟩
  · refine z_iconst dX12_hinge_8 ⟨by decide, by decide⟩ ?_
    exact z_ireturn dX12_hinge_9 rfl rfl ⟨_, rfl, (h2.2 q5)⟩
set_option maxRecDepth 20000 in
theorem V_X12_cut {a : Int}  {μ : z_Mem} {d : Nat} {K : Int → z_Mem → Prop} (h : z_ci m_X12_isEdge [(2, 113), (0, a)] μ d (fun x3 m1 => (¬ x3 = 0 → z_ci m_X12_isHinge [(2, 113), (0, a)] m1 d (fun x8 m6 => (¬ x8 = 0 → z_cn m_X12_keepsPast [(2, 113)] m6 d (fun m11 => z_I (23 + a) ∧ (((0 : Int) ≤ 23 + a ∧ 23 + a < 143) ∧ (z_ci m_X12_hinges [(2, 113)] (z_st m11 114 (23 + a) 0) d (fun x15 m13 => K x15 m13))))) ∧ (x8 = 0 → K (-2) m6))) ∧ (x3 = 0 → K (-1) m1))) : z_ci m_X12_cut [(2, 113), (0, a)] μ (d + 1) K := by
  show z_R m_X12_cut 0 [some (2, 113), some (0, a)] [] z_n μ (d + 1) _
  refine z_aload_n dX12_cut_0 rfl ?_
  refine z_iload_n dX12_cut_1 rfl ?_
  refine n_vI (as := [(0, a)]) (rest := []) dX12_cut_2 zm_X12_isEdge zs_X12_263 k_113 (by decide) rfl rfl (Nat.le_of_ble_eq_true rfl) (Nat.le_of_ble_eq_true rfl) h (fun x3 m1 h2 => ?_)
  refine z_if_ne (tgt := 10) dX12_cut_5 (by decide) (fun q4 => ?_) (fun q5 => ?_)
  · refine z_aload_n dX12_cut_10 rfl ?_
    refine z_iload_n dX12_cut_11 rfl ?_
    refine n_vI (as := [(0, a)]) (rest := []) dX12_cut_12 zm_X12_isHinge zs_X12_257 k_113 (by decide) rfl rfl (Nat.le_of_ble_eq_true rfl) (Nat.le_of_ble_eq_true rfl) (h2.1 q4) (fun x8 m6 h7 => ?_)
    refine z_if_ne (tgt := 21) dX12_cut_15 (by decide) (fun q9 => ?_) (fun q10 => ?_)
    · refine z_aload_n dX12_cut_21 rfl ?_
      refine n_vN (as := []) (rest := []) dX12_cut_22 zm_X12_keepsPast zs_X12_275 k_113 (by decide) rfl rfl (Nat.le_of_ble_eq_true rfl) (Nat.le_of_ble_eq_true rfl) (h7.1 q9) (fun m11 h12 => ?_)
      refine z_aload_n dX12_cut_25 rfl ?_
      refine n_getp (ji := 0) dX12_cut_26 zf_X12_9 k_113 rfl (by decide) rfl p_113_0 ?_
      refine z_bipush dX12_cut_29 (by decide) ?_
      refine z_iload_n dX12_cut_31 rfl ?_
      refine z_iadd dX12_cut_32 h12.1 ?_
      refine z_iconst dX12_cut_33 ⟨by decide, by decide⟩ ?_
      refine n_iast dX12_cut_34 k_114 h12.2.1 ?_
      refine z_aload_n dX12_cut_35 rfl ?_
      refine n_vI (as := []) (rest := []) dX12_cut_36 zm_X12_hinges zs_X12_254 k_113 (by decide) rfl rfl (Nat.le_of_ble_eq_true rfl) (Nat.le_of_ble_eq_true rfl) h12.2.2 (fun x15 m13 h14 => ?_)
      exact z_ireturn dX12_cut_39 rfl rfl ⟨_, rfl, h14⟩
    · refine z_bipush dX12_cut_18 (by decide) ?_
      exact z_ireturn dX12_cut_20 rfl rfl ⟨_, rfl, (h7.2 q10)⟩
  · refine z_iconst dX12_cut_8 ⟨by decide, by decide⟩ ?_
    exact z_ireturn dX12_cut_9 rfl rfl ⟨_, rfl, (h2.2 q5)⟩
set_option maxRecDepth 20000 in
theorem V_X12_root {a : Int}  {μ : z_Mem} {d : Nat} {K : Int → z_Mem → Prop} (h : z_ci m_X12_isFace [(2, 113), (0, a)] μ d (fun x3 m1 => (¬ x3 = 0 → (¬ m1 114 22 = a → z_cn m_X12_keepsPast [(2, 113)] m1 d (fun m8 => K (m1 114 22) (z_st m8 114 22 a))) ∧ (m1 114 22 = a → K (-2) m1)) ∧ (x3 = 0 → K (-1) m1))) : z_ci m_X12_root [(2, 113), (0, a)] μ (d + 1) K := by
  show z_R m_X12_root 0 [some (2, 113), some (0, a), none] [] z_n μ (d + 1) _
  refine z_aload_n dX12_root_0 rfl ?_
  refine z_iload_n dX12_root_1 rfl ?_
  refine n_vI (as := [(0, a)]) (rest := []) dX12_root_2 zm_X12_isFace zs_X12_278 k_113 (by decide) rfl rfl (Nat.le_of_ble_eq_true rfl) (Nat.le_of_ble_eq_true rfl) h (fun x3 m1 h2 => ?_)
  refine z_if_ne (tgt := 10) dX12_root_5 (by decide) (fun q4 => ?_) (fun q5 => ?_)
  · refine z_aload_n dX12_root_10 rfl ?_
    refine n_getp (ji := 0) dX12_root_11 zf_X12_9 k_113 rfl (by decide) rfl p_113_0 ?_
    refine z_bipush dX12_root_14 (by decide) ?_
    refine n_iald dX12_root_16 k_114 (by decide) ?_
    refine n_istore_n (lo' := [some (2, 113), some (0, a), some (0, m1 114 22)]) dX12_root_17 ⟨Nat.le_of_ble_eq_true rfl, Nat.le_of_ble_eq_true rfl⟩ rfl ?_
    refine z_iload_n dX12_root_18 rfl ?_
    refine z_iload_n dX12_root_19 rfl ?_
    refine z_icmp_ne (tgt := 26) dX12_root_20 (by decide) (fun q6 => ?_) (fun q7 => ?_)
    · refine z_aload_n dX12_root_26 rfl ?_
      refine n_vN (as := []) (rest := []) dX12_root_27 zm_X12_keepsPast zs_X12_275 k_113 (by decide) rfl rfl (Nat.le_of_ble_eq_true rfl) (Nat.le_of_ble_eq_true rfl) ((h2.1 q4).1 q6) (fun m8 h9 => ?_)
      refine z_aload_n dX12_root_30 rfl ?_
      refine n_getp (ji := 0) dX12_root_31 zf_X12_9 k_113 rfl (by decide) rfl p_113_0 ?_
      refine z_bipush dX12_root_34 (by decide) ?_
      refine z_iload_n dX12_root_36 rfl ?_
      refine n_iast dX12_root_37 k_114 (by decide) ?_
      refine z_iload_n dX12_root_38 rfl ?_
      exact z_ireturn dX12_root_39 rfl rfl ⟨_, rfl, h9⟩
    · refine z_bipush dX12_root_23 (by decide) ?_
      exact z_ireturn dX12_root_25 rfl rfl ⟨_, rfl, ((h2.1 q4).2 q7)⟩
  · refine z_iconst dX12_root_8 ⟨by decide, by decide⟩ ?_
    exact z_ireturn dX12_root_9 rfl rfl ⟨_, rfl, (h2.2 q5)⟩
set_option maxRecDepth 20000 in
theorem V_X12_weigh {a b : Int}  {μ : z_Mem} {d : Nat} {K : Int → z_Mem → Prop} (h : z_ci m_X12_isEdge [(2, 113), (0, a)] μ d (fun x3 m1 => (x3 = 0 → K (-1) m1) ∧ (¬ x3 = 0 → z_ci m_X12_in [(1, b), (1, 0), (1, 9)] m1 d (fun x8 m6 => (¬ x8 = 0 → z_I (83 + a) ∧ (((0 : Int) ≤ 83 + a ∧ 83 + a < 143) ∧ ((¬ m6 114 (83 + a) = b → z_cn m_X12_keepsPast [(2, 113)] m6 d (fun m13 => z_I (83 + a) ∧ (((0 : Int) ≤ 83 + a ∧ 83 + a < 143) ∧ (K (m6 114 (83 + a)) (z_st m13 114 (83 + a) b))))) ∧ (m6 114 (83 + a) = b → K (-2) m6)))) ∧ (x8 = 0 → K (-1) m6))))) : z_ci m_X12_weigh [(2, 113), (0, a), (0, b)] μ (d + 1) K := by
  show z_R m_X12_weigh 0 [some (2, 113), some (0, a), some (0, b), none] [] z_n μ (d + 1) _
  refine z_aload_n dX12_weigh_0 rfl ?_
  refine z_iload_n dX12_weigh_1 rfl ?_
  refine n_vI (as := [(0, a)]) (rest := []) dX12_weigh_2 zm_X12_isEdge zs_X12_263 k_113 (by decide) rfl rfl (Nat.le_of_ble_eq_true rfl) (Nat.le_of_ble_eq_true rfl) h (fun x3 m1 h2 => ?_)
  refine z_if_eq (tgt := 20) dX12_weigh_5 (by decide) (fun q4 => ?_) (fun q5 => ?_)
  · refine z_iconst dX12_weigh_20 ⟨by decide, by decide⟩ ?_
    exact z_ireturn dX12_weigh_21 rfl rfl ⟨_, rfl, (h2.1 q4)⟩
  · refine z_iload_n dX12_weigh_8 rfl ?_
    refine z_i2l_ dX12_weigh_9 ?_
    refine z_lconst0 dX12_weigh_10 ?_
    refine z_ldc2 (n := 9) dX12_weigh_11 zc_1538 ⟨by decide, by decide⟩ ?_
    refine n_sI (as := [(1, b), (1, 0), (1, 9)]) (rest := []) dX12_weigh_14 zm_X12_in zs_X12_143 rfl rfl (Nat.le_of_ble_eq_true rfl) (Nat.le_of_ble_eq_true rfl) (h2.2 q5) (fun x8 m6 h7 => ?_)
    refine z_if_ne (tgt := 22) dX12_weigh_17 (by decide) (fun q9 => ?_) (fun q10 => ?_)
    · refine z_aload_n dX12_weigh_22 rfl ?_
      refine n_getp (ji := 0) dX12_weigh_23 zf_X12_9 k_113 rfl (by decide) rfl p_113_0 ?_
      refine z_bipush dX12_weigh_26 (by decide) ?_
      refine z_iload_n dX12_weigh_28 rfl ?_
      refine z_iadd dX12_weigh_29 (h7.1 q9).1 ?_
      refine n_iald dX12_weigh_30 k_114 (h7.1 q9).2.1 ?_
      refine n_istore_n (lo' := [some (2, 113), some (0, a), some (0, b), some (0, m6 114 (83 + a))]) dX12_weigh_31 ⟨Nat.le_of_ble_eq_true rfl, Nat.le_of_ble_eq_true rfl⟩ rfl ?_
      refine z_iload_n dX12_weigh_32 rfl ?_
      refine z_iload_n dX12_weigh_33 rfl ?_
      refine z_icmp_ne (tgt := 40) dX12_weigh_34 (by decide) (fun q11 => ?_) (fun q12 => ?_)
      · refine z_aload_n dX12_weigh_40 rfl ?_
        refine n_vN (as := []) (rest := []) dX12_weigh_41 zm_X12_keepsPast zs_X12_275 k_113 (by decide) rfl rfl (Nat.le_of_ble_eq_true rfl) (Nat.le_of_ble_eq_true rfl) ((h7.1 q9).2.2.1 q11) (fun m13 h14 => ?_)
        refine z_aload_n dX12_weigh_44 rfl ?_
        refine n_getp (ji := 0) dX12_weigh_45 zf_X12_9 k_113 rfl (by decide) rfl p_113_0 ?_
        refine z_bipush dX12_weigh_48 (by decide) ?_
        refine z_iload_n dX12_weigh_50 rfl ?_
        refine z_iadd dX12_weigh_51 h14.1 ?_
        refine z_iload_n dX12_weigh_52 rfl ?_
        refine n_iast dX12_weigh_53 k_114 h14.2.1 ?_
        refine z_iload_n dX12_weigh_54 rfl ?_
        exact z_ireturn dX12_weigh_55 rfl rfl ⟨_, rfl, h14.2.2⟩
      · refine z_bipush dX12_weigh_37 (by decide) ?_
        exact z_ireturn dX12_weigh_39 rfl rfl ⟨_, rfl, ((h7.1 q9).2.2.2 q12)⟩
    · refine z_iconst dX12_weigh_20 ⟨by decide, by decide⟩ ?_
      exact z_ireturn dX12_weigh_21 rfl rfl ⟨_, rfl, (h7.2 q10)⟩
set_option maxRecDepth 20000 in
theorem V_X12_cutsAll  {μ : z_Mem} {d : Nat} {K : z_Mem → Prop} (h : z_rn m_X12_cutsAll 2 [some (2, 113), some (0, 0)] μ d K) : z_cn m_X12_cutsAll [(2, 113)] μ d K := by
  show z_R m_X12_cutsAll 0 [some (2, 113), none] [] z_n μ d _
  refine z_iconst dX12_cutsAll_0 ⟨by decide, by decide⟩ ?_
  refine n_istore_n (lo' := [some (2, 113), some (0, 0)]) dX12_cutsAll_1 ⟨Nat.le_of_ble_eq_true rfl, Nat.le_of_ble_eq_true rfl⟩ rfl ?_
  refine z_drop [some (2, 113), some (0, 0)] ⟨rfl, rfl, trivial⟩ ?_
  exact h
set_option maxRecDepth 20000 in
theorem V_X12_cutsAll_2 {v1 : Int}  {μ : z_Mem} {d : Nat} {K : z_Mem → Prop} (h : (μ 113 22 ≤ v1 → K μ) ∧ (v1 < μ 113 22 → z_I (23 + v1) ∧ (((0 : Int) ≤ 23 + v1 ∧ 23 + v1 < 143) ∧ (z_I (v1 + 1) ∧ (z_rn m_X12_cutsAll 2 [some (2, 113), some (0, v1 + 1)] (z_st μ 114 (23 + v1) 0) d K))))) : z_rn m_X12_cutsAll 2 [some (2, 113), some (0, v1)] μ d K := by
  show z_R m_X12_cutsAll 2 [some (2, 113), some (0, v1)] [] z_n μ d _
  refine z_iload_n dX12_cutsAll_2 rfl ?_
  refine z_aload_n dX12_cutsAll_3 rfl ?_
  refine n_getf (ji := 22) (t := 0) dX12_cutsAll_4 zf_X12_245 k_113 rfl (by decide) rfl ?_
  refine z_icmp_ge (tgt := 26) dX12_cutsAll_7 (by decide) (fun q1 => ?_) (fun q2 => ?_)
  · exact z_return dX12_cutsAll_26 rfl rfl ⟨rfl, (h.1 q1)⟩
  · refine z_aload_n dX12_cutsAll_10 rfl ?_
    refine n_getp (ji := 0) dX12_cutsAll_11 zf_X12_9 k_113 rfl (by decide) rfl p_113_0 ?_
    refine z_bipush dX12_cutsAll_14 (by decide) ?_
    refine z_iload_n dX12_cutsAll_16 rfl ?_
    refine z_iadd dX12_cutsAll_17 (h.2 q2).1 ?_
    refine z_iconst dX12_cutsAll_18 ⟨by decide, by decide⟩ ?_
    refine n_iast dX12_cutsAll_19 k_114 (h.2 q2).2.1 ?_
    refine n_iinc (lo' := [some (2, 113), some (0, v1 + 1)]) dX12_cutsAll_20 rfl (by decide) (h.2 q2).2.2.1 rfl ?_
    refine z_goto (tgt := 2) dX12_cutsAll_23 (by decide) ?_
    refine z_drop [some (2, 113), some (0, v1 + 1)] ⟨rfl, rfl, trivial⟩ ?_
    exact (h.2 q2).2.2.2
set_option maxRecDepth 20000 in
theorem V_X12_span  {μ : z_Mem} {d : Nat} {K : Int → z_Mem → Prop} (h : (¬ μ 113 21 = 0 → z_cn m_X12_keepsPast [(2, 113)] μ d (fun m3 => z_cn m_X12_cutsAll [(2, 113)] m3 d (fun m5 => z_ri m_X12_span 21 [some (2, 113), some (0, 0), some (0, 0), none] m5 (d + 1) K))) ∧ (μ 113 21 = 0 → K (-1) μ)) : z_ci m_X12_span [(2, 113)] μ (d + 1) K := by
  show z_R m_X12_span 0 [some (2, 113), none, none, none] [] z_n μ (d + 1) _
  refine z_aload_n dX12_span_0 rfl ?_
  refine n_getf (ji := 21) (t := 0) dX12_span_1 zf_X12_205 k_113 rfl (by decide) rfl ?_
  refine z_if_ne (tgt := 9) dX12_span_4 (by decide) (fun q1 => ?_) (fun q2 => ?_)
  · refine z_aload_n dX12_span_9 rfl ?_
    refine n_vN (as := []) (rest := []) dX12_span_10 zm_X12_keepsPast zs_X12_275 k_113 (by decide) rfl rfl (Nat.le_of_ble_eq_true rfl) (Nat.le_of_ble_eq_true rfl) (h.1 q1) (fun m3 h4 => ?_)
    refine z_aload_n dX12_span_13 rfl ?_
    refine n_vN (as := []) (rest := []) dX12_span_14 zm_X12_cutsAll zs_X12_283 k_113 (by decide) rfl rfl (Nat.le_of_ble_eq_true rfl) (Nat.le_of_ble_eq_true rfl) h4 (fun m5 h6 => ?_)
    refine z_iconst dX12_span_17 ⟨by decide, by decide⟩ ?_
    refine n_istore_n (lo' := [some (2, 113), some (0, 0), none, none]) dX12_span_18 ⟨Nat.le_of_ble_eq_true rfl, Nat.le_of_ble_eq_true rfl⟩ rfl ?_
    refine z_iconst dX12_span_19 ⟨by decide, by decide⟩ ?_
    refine n_istore_n (lo' := [some (2, 113), some (0, 0), some (0, 0), none]) dX12_span_20 ⟨Nat.le_of_ble_eq_true rfl, Nat.le_of_ble_eq_true rfl⟩ rfl ?_
    refine z_drop [some (2, 113), some (0, 0), some (0, 0), none] ⟨rfl, rfl, rfl, trivial⟩ ?_
    exact h6
  · refine z_iconst dX12_span_7 ⟨by decide, by decide⟩ ?_
    exact z_ireturn dX12_span_8 rfl rfl ⟨_, rfl, (h.2 q2)⟩
set_option maxRecDepth 20000 in
theorem V_X12_span_21 {v1 v2 : Int}  {μ : z_Mem} {d : Nat} {K : Int → z_Mem → Prop} (h : (10 ≤ v2 → K v1 μ) ∧ (v2 < 10 → z_ri m_X12_span 29 [some (2, 113), some (0, v1), some (0, v2), some (0, 0)] μ (d + 1) K)) : z_ri m_X12_span 21 [some (2, 113), some (0, v1), some (0, v2), none] μ (d + 1) K := by
  show z_R m_X12_span 21 [some (2, 113), some (0, v1), some (0, v2), none] [] z_n μ (d + 1) _
  refine z_iload_n dX12_span_21 rfl ?_
  refine z_bipush dX12_span_22 (by decide) ?_
  refine z_icmp_ge (tgt := 93) dX12_span_24 (by decide) (fun q1 => ?_) (fun q2 => ?_)
  · refine z_iload_n dX12_span_93 rfl ?_
    exact z_ireturn dX12_span_94 rfl rfl ⟨_, rfl, (h.1 q1)⟩
  · refine z_iconst dX12_span_27 ⟨by decide, by decide⟩ ?_
    refine n_istore_n (lo' := [some (2, 113), some (0, v1), some (0, v2), some (0, 0)]) dX12_span_28 ⟨Nat.le_of_ble_eq_true rfl, Nat.le_of_ble_eq_true rfl⟩ rfl ?_
    refine z_drop [some (2, 113), some (0, v1), some (0, v2), some (0, 0)] ⟨rfl, rfl, rfl, rfl, trivial⟩ ?_
    exact (h.2 q2)
set_option maxRecDepth 20000 in
theorem V_X12_span_29 {v1 v2 v3 : Int}  {μ : z_Mem} {d : Nat} {K : Int → z_Mem → Prop} (h : (μ 113 22 ≤ v3 → z_I (v2 + 1) ∧ (z_ri m_X12_span 21 [some (2, 113), some (0, v1), some (0, v2 + 1), none] μ (d + 1) K)) ∧ (v3 < μ 113 22 → z_I (83 + v3) ∧ (((0 : Int) ≤ 83 + v3 ∧ 83 + v3 < 143) ∧ ((¬ μ 114 (83 + v3) = v2 → z_I (v3 + 1) ∧ (z_ri m_X12_span 29 [some (2, 113), some (0, v1), some (0, v2), some (0, v3 + 1)] μ (d + 1) K)) ∧ (μ 114 (83 + v3) = v2 → z_ci m_X12_firstOf [(2, 113), (0, v3)] μ d (fun x7 m5 => z_ci m_X12_secondOf [(2, 113), (0, v3)] m5 d (fun x10 m8 => z_ci m_X12_areJoined [(2, 113), (0, x7), (0, x10)] m8 d (fun x13 m11 => (¬ x13 = 0 → z_I (v3 + 1) ∧ (z_ri m_X12_span 29 [some (2, 113), some (0, v1), some (0, v2), some (0, v3 + 1)] m11 (d + 1) K)) ∧ (x13 = 0 → z_I (23 + v3) ∧ (((0 : Int) ≤ 23 + v3 ∧ 23 + v3 < 143) ∧ (z_I (v1 + v2) ∧ (z_I (v3 + 1) ∧ (z_ri m_X12_span 29 [some (2, 113), some (0, v1 + v2), some (0, v2), some (0, v3 + 1)] (z_st m11 114 (23 + v3) 1) (d + 1) K))))))))))))) : z_ri m_X12_span 29 [some (2, 113), some (0, v1), some (0, v2), some (0, v3)] μ (d + 1) K := by
  show z_R m_X12_span 29 [some (2, 113), some (0, v1), some (0, v2), some (0, v3)] [] z_n μ (d + 1) _
  refine z_iload_n dX12_span_29 rfl ?_
  refine z_aload_n dX12_span_30 rfl ?_
  refine n_getf (ji := 22) (t := 0) dX12_span_31 zf_X12_245 k_113 rfl (by decide) rfl ?_
  refine z_icmp_ge (tgt := 87) dX12_span_34 (by decide) (fun q1 => ?_) (fun q2 => ?_)
  · refine n_iinc (lo' := [some (2, 113), some (0, v1), some (0, v2 + 1), some (0, v3)]) dX12_span_87 rfl (by decide) (h.1 q1).1 rfl ?_
    refine z_goto (tgt := 21) dX12_span_90 (by decide) ?_
    refine z_drop [some (2, 113), some (0, v1), some (0, v2 + 1), none] ⟨rfl, rfl, rfl, trivial⟩ ?_
    exact (h.1 q1).2
  · refine z_aload_n dX12_span_37 rfl ?_
    refine n_getp (ji := 0) dX12_span_38 zf_X12_9 k_113 rfl (by decide) rfl p_113_0 ?_
    refine z_bipush dX12_span_41 (by decide) ?_
    refine z_iload_n dX12_span_43 rfl ?_
    refine z_iadd dX12_span_44 (h.2 q2).1 ?_
    refine n_iald dX12_span_45 k_114 (h.2 q2).2.1 ?_
    refine z_iload_n dX12_span_46 rfl ?_
    refine z_icmp_ne (tgt := 81) dX12_span_47 (by decide) (fun q3 => ?_) (fun q4 => ?_)
    · refine n_iinc (lo' := [some (2, 113), some (0, v1), some (0, v2), some (0, v3 + 1)]) dX12_span_81 rfl (by decide) ((h.2 q2).2.2.1 q3).1 rfl ?_
      refine z_goto (tgt := 29) dX12_span_84 (by decide) ?_
      refine z_drop [some (2, 113), some (0, v1), some (0, v2), some (0, v3 + 1)] ⟨rfl, rfl, rfl, rfl, trivial⟩ ?_
      exact ((h.2 q2).2.2.1 q3).2
    · refine z_aload_n dX12_span_50 rfl ?_
      refine z_aload_n dX12_span_51 rfl ?_
      refine z_iload_n dX12_span_52 rfl ?_
      refine n_vI (as := [(0, v3)]) (rest := [(2, 113)]) dX12_span_53 zm_X12_firstOf zs_X12_266 k_113 (by decide) rfl rfl (Nat.le_of_ble_eq_true rfl) (Nat.le_of_ble_eq_true rfl) ((h.2 q2).2.2.2 q4) (fun x7 m5 h6 => ?_)
      refine z_aload_n dX12_span_56 rfl ?_
      refine z_iload_n dX12_span_57 rfl ?_
      refine n_vI (as := [(0, v3)]) (rest := [(0, x7), (2, 113)]) dX12_span_58 zm_X12_secondOf zs_X12_269 k_113 (by decide) rfl rfl (Nat.le_of_ble_eq_true rfl) (Nat.le_of_ble_eq_true rfl) h6 (fun x10 m8 h9 => ?_)
      refine n_vI (as := [(0, x7), (0, x10)]) (rest := []) dX12_span_61 zm_X12_areJoined zs_X12_272 k_113 (by decide) rfl rfl (Nat.le_of_ble_eq_true rfl) (Nat.le_of_ble_eq_true rfl) h9 (fun x13 m11 h12 => ?_)
      refine z_if_ne (tgt := 81) dX12_span_64 (by decide) (fun q14 => ?_) (fun q15 => ?_)
      · refine n_iinc (lo' := [some (2, 113), some (0, v1), some (0, v2), some (0, v3 + 1)]) dX12_span_81 rfl (by decide) (h12.1 q14).1 rfl ?_
        refine z_goto (tgt := 29) dX12_span_84 (by decide) ?_
        refine z_drop [some (2, 113), some (0, v1), some (0, v2), some (0, v3 + 1)] ⟨rfl, rfl, rfl, rfl, trivial⟩ ?_
        exact (h12.1 q14).2
      · refine z_aload_n dX12_span_67 rfl ?_
        refine n_getp (ji := 0) dX12_span_68 zf_X12_9 k_113 rfl (by decide) rfl p_113_0 ?_
        refine z_bipush dX12_span_71 (by decide) ?_
        refine z_iload_n dX12_span_73 rfl ?_
        refine z_iadd dX12_span_74 (h12.2 q15).1 ?_
        refine z_iconst dX12_span_75 ⟨by decide, by decide⟩ ?_
        refine n_iast dX12_span_76 k_114 (h12.2 q15).2.1 ?_
        refine z_iload_n dX12_span_77 rfl ?_
        refine z_iload_n dX12_span_78 rfl ?_
        refine z_iadd dX12_span_79 (h12.2 q15).2.2.1 ?_
        refine n_istore_n (lo' := [some (2, 113), some (0, v1 + v2), some (0, v2), some (0, v3)]) dX12_span_80 ⟨Nat.le_of_ble_eq_true rfl, Nat.le_of_ble_eq_true rfl⟩ rfl ?_
        refine n_iinc (lo' := [some (2, 113), some (0, v1 + v2), some (0, v2), some (0, v3 + 1)]) dX12_span_81 rfl (by decide) (h12.2 q15).2.2.2.1 rfl ?_
        refine z_goto (tgt := 29) dX12_span_84 (by decide) ?_
        refine z_drop [some (2, 113), some (0, v1 + v2), some (0, v2), some (0, v3 + 1)] ⟨rfl, rfl, rfl, rfl, trivial⟩ ?_
        exact (h12.2 q15).2.2.2.2
set_option maxRecDepth 20000 in
theorem V_X12_goesDeep {a : Int}  {μ : z_Mem} {d : Nat} {K : z_Mem → Prop} (h : ((0 : Int) ≤ a ∧ a < 30) ∧ (z_rn m_X12_goesDeep 9 [some (2, 113), some (0, a), some (0, 0), none] (z_st μ 134 a 1) (d + 1) K)) : z_cn m_X12_goesDeep [(2, 113), (0, a)] μ (d + 1) K := by
  show z_R m_X12_goesDeep 0 [some (2, 113), some (0, a), none, none] [] z_n μ (d + 1) _
  refine z_aload_n dX12_goesDeep_0 rfl ?_
  refine n_getp (ji := 28) dX12_goesDeep_1 zf_X12_72 k_113 rfl (by decide) rfl p_113_28 ?_
  refine z_iload_n dX12_goesDeep_4 rfl ?_
  refine z_iconst dX12_goesDeep_5 ⟨by decide, by decide⟩ ?_
  refine n_zast dX12_goesDeep_6 k_134 h.1 (by decide) ?_
  refine z_iconst dX12_goesDeep_7 ⟨by decide, by decide⟩ ?_
  refine n_istore_n (lo' := [some (2, 113), some (0, a), some (0, 0), none]) dX12_goesDeep_8 ⟨Nat.le_of_ble_eq_true rfl, Nat.le_of_ble_eq_true rfl⟩ rfl ?_
  refine z_drop [some (2, 113), some (0, a), some (0, 0), none] ⟨rfl, rfl, rfl, trivial⟩ ?_
  exact h.2
set_option maxRecDepth 20000 in
theorem V_X12_goesDeep_9 {v1 v2 : Int}  {μ : z_Mem} {d : Nat} {K : z_Mem → Prop} (h : (4 ≤ v2 → K μ) ∧ (v2 < 4 → z_I (4 * v1) ∧ (z_I ((4 * v1) + v2) ∧ (((0 : Int) ≤ (4 * v1) + v2 ∧ (4 * v1) + v2 < 120) ∧ (((0 : Int) ≤ μ 123 ((4 * v1) + v2) ∧ μ 123 ((4 * v1) + v2) < 30) ∧ ((¬ μ 134 (μ 123 ((4 * v1) + v2)) = 0 → z_I (v2 + 1) ∧ (z_rn m_X12_goesDeep 9 [some (2, 113), some (0, v1), some (0, v2 + 1), none] μ (d + 1) K)) ∧ (μ 134 (μ 123 ((4 * v1) + v2)) = 0 → z_I (4 * v1) ∧ (z_I ((4 * v1) + v2) ∧ (((0 : Int) ≤ (4 * v1) + v2 ∧ (4 * v1) + v2 < 120) ∧ (z_I (23 + (μ 126 ((4 * v1) + v2))) ∧ (((0 : Int) ≤ 23 + (μ 126 ((4 * v1) + v2)) ∧ 23 + (μ 126 ((4 * v1) + v2)) < 143) ∧ (((0 : Int) ≤ v1 ∧ v1 < 30) ∧ (z_I (((z_st μ 114 (23 + (μ 126 ((4 * v1) + v2))) 1) 133 v1) + 1) ∧ (((0 : Int) ≤ μ 123 ((4 * v1) + v2) ∧ μ 123 ((4 * v1) + v2) < 30) ∧ (z_cn m_X12_goesDeep [(2, 113), (0, μ 123 ((4 * v1) + v2))] (z_st (z_st μ 114 (23 + (μ 126 ((4 * v1) + v2))) 1) 133 (μ 123 ((4 * v1) + v2)) (((z_st μ 114 (23 + (μ 126 ((4 * v1) + v2))) 1) 133 v1) + 1)) d (fun m5 => z_I (v2 + 1) ∧ (z_rn m_X12_goesDeep 9 [some (2, 113), some (0, v1), some (0, v2 + 1), none] m5 (d + 1) K))))))))))))))))) : z_rn m_X12_goesDeep 9 [some (2, 113), some (0, v1), some (0, v2), none] μ (d + 1) K := by
  show z_R m_X12_goesDeep 9 [some (2, 113), some (0, v1), some (0, v2), none] [] z_n μ (d + 1) _
  refine z_iload_n dX12_goesDeep_9 rfl ?_
  refine z_iconst dX12_goesDeep_10 ⟨by decide, by decide⟩ ?_
  refine z_icmp_ge (tgt := 78) dX12_goesDeep_11 (by decide) (fun q1 => ?_) (fun q2 => ?_)
  · exact z_return dX12_goesDeep_78 rfl rfl ⟨rfl, (h.1 q1)⟩
  · refine z_aload_n dX12_goesDeep_14 rfl ?_
    refine n_getp (ji := 14) dX12_goesDeep_15 zf_X12_39 k_113 rfl (by decide) rfl p_113_14 ?_
    refine z_iconst dX12_goesDeep_18 ⟨by decide, by decide⟩ ?_
    refine z_iload_n dX12_goesDeep_19 rfl ?_
    refine z_imul dX12_goesDeep_20 (h.2 q2).1 ?_
    refine z_iload_n dX12_goesDeep_21 rfl ?_
    refine z_iadd dX12_goesDeep_22 (h.2 q2).2.1 ?_
    refine n_iald dX12_goesDeep_23 k_123 (h.2 q2).2.2.1 ?_
    refine n_istore_n (lo' := [some (2, 113), some (0, v1), some (0, v2), some (0, μ 123 ((4 * v1) + v2))]) dX12_goesDeep_24 ⟨Nat.le_of_ble_eq_true rfl, Nat.le_of_ble_eq_true rfl⟩ rfl ?_
    refine z_aload_n dX12_goesDeep_25 rfl ?_
    refine n_getp (ji := 28) dX12_goesDeep_26 zf_X12_72 k_113 rfl (by decide) rfl p_113_28 ?_
    refine z_iload_n dX12_goesDeep_29 rfl ?_
    refine n_zald dX12_goesDeep_30 k_134 (h.2 q2).2.2.2.1 ?_
    refine z_if_ne (tgt := 72) dX12_goesDeep_31 (by decide) (fun q3 => ?_) (fun q4 => ?_)
    · refine n_iinc (lo' := [some (2, 113), some (0, v1), some (0, v2 + 1), some (0, μ 123 ((4 * v1) + v2))]) dX12_goesDeep_72 rfl (by decide) ((h.2 q2).2.2.2.2.1 q3).1 rfl ?_
      refine z_goto (tgt := 9) dX12_goesDeep_75 (by decide) ?_
      refine z_drop [some (2, 113), some (0, v1), some (0, v2 + 1), none] ⟨rfl, rfl, rfl, trivial⟩ ?_
      exact ((h.2 q2).2.2.2.2.1 q3).2
    · refine z_aload_n dX12_goesDeep_34 rfl ?_
      refine n_getp (ji := 0) dX12_goesDeep_35 zf_X12_9 k_113 rfl (by decide) rfl p_113_0 ?_
      refine z_bipush dX12_goesDeep_38 (by decide) ?_
      refine z_aload_n dX12_goesDeep_40 rfl ?_
      refine n_getp (ji := 17) dX12_goesDeep_41 zf_X12_48 k_113 rfl (by decide) rfl p_113_17 ?_
      refine z_iconst dX12_goesDeep_44 ⟨by decide, by decide⟩ ?_
      refine z_iload_n dX12_goesDeep_45 rfl ?_
      refine z_imul dX12_goesDeep_46 ((h.2 q2).2.2.2.2.2 q4).1 ?_
      refine z_iload_n dX12_goesDeep_47 rfl ?_
      refine z_iadd dX12_goesDeep_48 ((h.2 q2).2.2.2.2.2 q4).2.1 ?_
      refine n_iald dX12_goesDeep_49 k_126 ((h.2 q2).2.2.2.2.2 q4).2.2.1 ?_
      refine z_iadd dX12_goesDeep_50 ((h.2 q2).2.2.2.2.2 q4).2.2.2.1 ?_
      refine z_iconst dX12_goesDeep_51 ⟨by decide, by decide⟩ ?_
      refine n_iast dX12_goesDeep_52 k_114 ((h.2 q2).2.2.2.2.2 q4).2.2.2.2.1 ?_
      refine z_aload_n dX12_goesDeep_53 rfl ?_
      refine n_getp (ji := 27) dX12_goesDeep_54 zf_X12_69 k_113 rfl (by decide) rfl p_113_27 ?_
      refine z_iload_n dX12_goesDeep_57 rfl ?_
      refine z_aload_n dX12_goesDeep_58 rfl ?_
      refine n_getp (ji := 27) dX12_goesDeep_59 zf_X12_69 k_113 rfl (by decide) rfl p_113_27 ?_
      refine z_iload_n dX12_goesDeep_62 rfl ?_
      refine n_iald dX12_goesDeep_63 k_133 ((h.2 q2).2.2.2.2.2 q4).2.2.2.2.2.1 ?_
      refine z_iconst dX12_goesDeep_64 ⟨by decide, by decide⟩ ?_
      refine z_iadd dX12_goesDeep_65 ((h.2 q2).2.2.2.2.2 q4).2.2.2.2.2.2.1 ?_
      refine n_iast dX12_goesDeep_66 k_133 ((h.2 q2).2.2.2.2.2 q4).2.2.2.2.2.2.2.1 ?_
      refine z_aload_n dX12_goesDeep_67 rfl ?_
      refine z_iload_n dX12_goesDeep_68 rfl ?_
      refine n_vN (as := [(0, μ 123 ((4 * v1) + v2))]) (rest := []) dX12_goesDeep_69 zm_X12_goesDeep zs_X12_286 k_113 (by decide) rfl rfl (Nat.le_of_ble_eq_true rfl) (Nat.le_of_ble_eq_true rfl) ((h.2 q2).2.2.2.2.2 q4).2.2.2.2.2.2.2.2 (fun m5 h6 => ?_)
      refine n_iinc (lo' := [some (2, 113), some (0, v1), some (0, v2 + 1), some (0, μ 123 ((4 * v1) + v2))]) dX12_goesDeep_72 rfl (by decide) h6.1 rfl ?_
      refine z_goto (tgt := 9) dX12_goesDeep_75 (by decide) ?_
      refine z_drop [some (2, 113), some (0, v1), some (0, v2 + 1), none] ⟨rfl, rfl, rfl, trivial⟩ ?_
      exact h6.2
set_option maxRecDepth 20000 in
theorem V_X12_goesWide {a : Int}  {μ : z_Mem} {d : Nat} {K : z_Mem → Prop} (h : ((0 : Int) ≤ a ∧ a < 30) ∧ (z_rn m_X12_goesWide 18 [some (2, 113), none, some (0, 1), some (0, 0), none, none] (z_st (z_st μ 134 a 1) 131 0 a) d K)) : z_cn m_X12_goesWide [(2, 113), (0, a)] μ d K := by
  show z_R m_X12_goesWide 0 [some (2, 113), some (0, a), none, none, none, none] [] z_n μ d _
  refine z_aload_n dX12_goesWide_0 rfl ?_
  refine n_getp (ji := 28) dX12_goesWide_1 zf_X12_72 k_113 rfl (by decide) rfl p_113_28 ?_
  refine z_iload_n dX12_goesWide_4 rfl ?_
  refine z_iconst dX12_goesWide_5 ⟨by decide, by decide⟩ ?_
  refine n_zast dX12_goesWide_6 k_134 h.1 (by decide) ?_
  refine z_aload_n dX12_goesWide_7 rfl ?_
  refine n_getp (ji := 25) dX12_goesWide_8 zf_X12_63 k_113 rfl (by decide) rfl p_113_25 ?_
  refine z_iconst dX12_goesWide_11 ⟨by decide, by decide⟩ ?_
  refine z_iload_n dX12_goesWide_12 rfl ?_
  refine n_iast dX12_goesWide_13 k_131 (by decide) ?_
  refine z_iconst dX12_goesWide_14 ⟨by decide, by decide⟩ ?_
  refine n_istore_n (lo' := [some (2, 113), some (0, a), some (0, 1), none, none, none]) dX12_goesWide_15 ⟨Nat.le_of_ble_eq_true rfl, Nat.le_of_ble_eq_true rfl⟩ rfl ?_
  refine z_iconst dX12_goesWide_16 ⟨by decide, by decide⟩ ?_
  refine n_istore_n (lo' := [some (2, 113), some (0, a), some (0, 1), some (0, 0), none, none]) dX12_goesWide_17 ⟨Nat.le_of_ble_eq_true rfl, Nat.le_of_ble_eq_true rfl⟩ rfl ?_
  refine z_drop [some (2, 113), none, some (0, 1), some (0, 0), none, none] ⟨rfl, rfl, rfl, trivial⟩ ?_
  exact h.2
set_option maxRecDepth 20000 in
theorem V_X12_goesWide_18 {v2 v3 : Int}  {μ : z_Mem} {d : Nat} {K : z_Mem → Prop} (h : (v2 ≤ v3 → K μ) ∧ (v3 < v2 → z_rn m_X12_goesWide 26 [some (2, 113), none, some (0, v2), some (0, v3), some (0, 0), none] μ d K)) : z_rn m_X12_goesWide 18 [some (2, 113), none, some (0, v2), some (0, v3), none, none] μ d K := by
  show z_R m_X12_goesWide 18 [some (2, 113), none, some (0, v2), some (0, v3), none, none] [] z_n μ d _
  refine z_iload_n dX12_goesWide_18 rfl ?_
  refine z_iload_n dX12_goesWide_19 rfl ?_
  refine z_icmp_ge (tgt := 142) dX12_goesWide_20 (by decide) (fun q1 => ?_) (fun q2 => ?_)
  · exact z_return dX12_goesWide_142 rfl rfl ⟨rfl, (h.1 q1)⟩
  · refine z_iconst dX12_goesWide_23 ⟨by decide, by decide⟩ ?_
    refine n_istore (lo' := [some (2, 113), none, some (0, v2), some (0, v3), some (0, 0), none]) dX12_goesWide_24 ⟨Nat.le_of_ble_eq_true rfl, Nat.le_of_ble_eq_true rfl⟩ rfl ?_
    refine z_drop [some (2, 113), none, some (0, v2), some (0, v3), some (0, 0), none] ⟨rfl, rfl, rfl, rfl, trivial⟩ ?_
    exact (h.2 q2)
set_option maxRecDepth 20000 in
theorem V_X12_goesWide_26 {v2 v3 v4 : Int}  {μ : z_Mem} {d : Nat} {K : z_Mem → Prop} (h : (4 ≤ v4 → z_I (v3 + 1) ∧ (z_rn m_X12_goesWide 18 [some (2, 113), none, some (0, v2), some (0, v3 + 1), none, none] μ d K)) ∧ (v4 < 4 → ((0 : Int) ≤ v3 ∧ v3 < 30) ∧ (z_I (4 * (μ 131 v3)) ∧ (z_I ((4 * (μ 131 v3)) + v4) ∧ (((0 : Int) ≤ (4 * (μ 131 v3)) + v4 ∧ (4 * (μ 131 v3)) + v4 < 120) ∧ (((0 : Int) ≤ μ 123 ((4 * (μ 131 v3)) + v4) ∧ μ 123 ((4 * (μ 131 v3)) + v4) < 30) ∧ ((¬ μ 134 (μ 123 ((4 * (μ 131 v3)) + v4)) = 0 → z_I (v4 + 1) ∧ (z_rn m_X12_goesWide 26 [some (2, 113), none, some (0, v2), some (0, v3), some (0, v4 + 1), none] μ d K)) ∧ (μ 134 (μ 123 ((4 * (μ 131 v3)) + v4)) = 0 → ((0 : Int) ≤ (4 * (μ 131 v3)) + v4 ∧ (4 * (μ 131 v3)) + v4 < 120) ∧ (((0 : Int) ≤ μ 123 ((4 * (μ 131 v3)) + v4) ∧ μ 123 ((4 * (μ 131 v3)) + v4) < 30) ∧ (((0 : Int) ≤ (4 * (μ 131 v3)) + v4 ∧ (4 * (μ 131 v3)) + v4 < 120) ∧ (z_I (23 + ((z_st μ 134 (μ 123 ((4 * (μ 131 v3)) + v4)) 1) 126 ((4 * (μ 131 v3)) + v4))) ∧ (((0 : Int) ≤ 23 + ((z_st μ 134 (μ 123 ((4 * (μ 131 v3)) + v4)) 1) 126 ((4 * (μ 131 v3)) + v4)) ∧ 23 + ((z_st μ 134 (μ 123 ((4 * (μ 131 v3)) + v4)) 1) 126 ((4 * (μ 131 v3)) + v4)) < 143) ∧ (((0 : Int) ≤ (4 * (μ 131 v3)) + v4 ∧ (4 * (μ 131 v3)) + v4 < 120) ∧ (((0 : Int) ≤ v3 ∧ v3 < 30) ∧ (((0 : Int) ≤ (z_st (z_st μ 134 (μ 123 ((4 * (μ 131 v3)) + v4)) 1) 114 (23 + ((z_st μ 134 (μ 123 ((4 * (μ 131 v3)) + v4)) 1) 126 ((4 * (μ 131 v3)) + v4))) 1) 131 v3 ∧ (z_st (z_st μ 134 (μ 123 ((4 * (μ 131 v3)) + v4)) 1) 114 (23 + ((z_st μ 134 (μ 123 ((4 * (μ 131 v3)) + v4)) 1) 126 ((4 * (μ 131 v3)) + v4))) 1) 131 v3 < 30) ∧ (z_I (((z_st (z_st μ 134 (μ 123 ((4 * (μ 131 v3)) + v4)) 1) 114 (23 + ((z_st μ 134 (μ 123 ((4 * (μ 131 v3)) + v4)) 1) 126 ((4 * (μ 131 v3)) + v4))) 1) 133 ((z_st (z_st μ 134 (μ 123 ((4 * (μ 131 v3)) + v4)) 1) 114 (23 + ((z_st μ 134 (μ 123 ((4 * (μ 131 v3)) + v4)) 1) 126 ((4 * (μ 131 v3)) + v4))) 1) 131 v3)) + 1) ∧ (((0 : Int) ≤ (z_st (z_st μ 134 (μ 123 ((4 * (μ 131 v3)) + v4)) 1) 114 (23 + ((z_st μ 134 (μ 123 ((4 * (μ 131 v3)) + v4)) 1) 126 ((4 * (μ 131 v3)) + v4))) 1) 123 ((4 * (μ 131 v3)) + v4) ∧ (z_st (z_st μ 134 (μ 123 ((4 * (μ 131 v3)) + v4)) 1) 114 (23 + ((z_st μ 134 (μ 123 ((4 * (μ 131 v3)) + v4)) 1) 126 ((4 * (μ 131 v3)) + v4))) 1) 123 ((4 * (μ 131 v3)) + v4) < 30) ∧ (((0 : Int) ≤ (4 * (μ 131 v3)) + v4 ∧ (4 * (μ 131 v3)) + v4 < 120) ∧ (((0 : Int) ≤ v2 ∧ v2 < 30) ∧ (z_I (v2 + 1) ∧ (z_I (v4 + 1) ∧ (z_rn m_X12_goesWide 26 [some (2, 113), none, some (0, v2 + 1), some (0, v3), some (0, v4 + 1), none] (z_st (z_st (z_st (z_st μ 134 (μ 123 ((4 * (μ 131 v3)) + v4)) 1) 114 (23 + ((z_st μ 134 (μ 123 ((4 * (μ 131 v3)) + v4)) 1) 126 ((4 * (μ 131 v3)) + v4))) 1) 133 ((z_st (z_st μ 134 (μ 123 ((4 * (μ 131 v3)) + v4)) 1) 114 (23 + ((z_st μ 134 (μ 123 ((4 * (μ 131 v3)) + v4)) 1) 126 ((4 * (μ 131 v3)) + v4))) 1) 123 ((4 * (μ 131 v3)) + v4)) (((z_st (z_st μ 134 (μ 123 ((4 * (μ 131 v3)) + v4)) 1) 114 (23 + ((z_st μ 134 (μ 123 ((4 * (μ 131 v3)) + v4)) 1) 126 ((4 * (μ 131 v3)) + v4))) 1) 133 ((z_st (z_st μ 134 (μ 123 ((4 * (μ 131 v3)) + v4)) 1) 114 (23 + ((z_st μ 134 (μ 123 ((4 * (μ 131 v3)) + v4)) 1) 126 ((4 * (μ 131 v3)) + v4))) 1) 131 v3)) + 1)) 131 v2 ((z_st (z_st (z_st μ 134 (μ 123 ((4 * (μ 131 v3)) + v4)) 1) 114 (23 + ((z_st μ 134 (μ 123 ((4 * (μ 131 v3)) + v4)) 1) 126 ((4 * (μ 131 v3)) + v4))) 1) 133 ((z_st (z_st μ 134 (μ 123 ((4 * (μ 131 v3)) + v4)) 1) 114 (23 + ((z_st μ 134 (μ 123 ((4 * (μ 131 v3)) + v4)) 1) 126 ((4 * (μ 131 v3)) + v4))) 1) 123 ((4 * (μ 131 v3)) + v4)) (((z_st (z_st μ 134 (μ 123 ((4 * (μ 131 v3)) + v4)) 1) 114 (23 + ((z_st μ 134 (μ 123 ((4 * (μ 131 v3)) + v4)) 1) 126 ((4 * (μ 131 v3)) + v4))) 1) 133 ((z_st (z_st μ 134 (μ 123 ((4 * (μ 131 v3)) + v4)) 1) 114 (23 + ((z_st μ 134 (μ 123 ((4 * (μ 131 v3)) + v4)) 1) 126 ((4 * (μ 131 v3)) + v4))) 1) 131 v3)) + 1)) 123 ((4 * (μ 131 v3)) + v4))) d K)))))))))))))))))))))) : z_rn m_X12_goesWide 26 [some (2, 113), none, some (0, v2), some (0, v3), some (0, v4), none] μ d K := by
  show z_R m_X12_goesWide 26 [some (2, 113), none, some (0, v2), some (0, v3), some (0, v4), none] [] z_n μ d _
  refine z_iload dX12_goesWide_26 rfl ?_
  refine z_iconst dX12_goesWide_28 ⟨by decide, by decide⟩ ?_
  refine z_icmp_ge (tgt := 136) dX12_goesWide_29 (by decide) (fun q1 => ?_) (fun q2 => ?_)
  · refine n_iinc (lo' := [some (2, 113), none, some (0, v2), some (0, v3 + 1), some (0, v4), none]) dX12_goesWide_136 rfl (by decide) (h.1 q1).1 rfl ?_
    refine z_goto (tgt := 18) dX12_goesWide_139 (by decide) ?_
    refine z_drop [some (2, 113), none, some (0, v2), some (0, v3 + 1), none, none] ⟨rfl, rfl, rfl, trivial⟩ ?_
    exact (h.1 q1).2
  · refine z_iconst dX12_goesWide_32 ⟨by decide, by decide⟩ ?_
    refine z_aload_n dX12_goesWide_33 rfl ?_
    refine n_getp (ji := 25) dX12_goesWide_34 zf_X12_63 k_113 rfl (by decide) rfl p_113_25 ?_
    refine z_iload_n dX12_goesWide_37 rfl ?_
    refine n_iald dX12_goesWide_38 k_131 (h.2 q2).1 ?_
    refine z_imul dX12_goesWide_39 (h.2 q2).2.1 ?_
    refine z_iload dX12_goesWide_40 rfl ?_
    refine z_iadd dX12_goesWide_42 (h.2 q2).2.2.1 ?_
    refine n_istore (lo' := [some (2, 113), none, some (0, v2), some (0, v3), some (0, v4), some (0, (4 * (μ 131 v3)) + v4)]) dX12_goesWide_43 ⟨Nat.le_of_ble_eq_true rfl, Nat.le_of_ble_eq_true rfl⟩ rfl ?_
    refine z_aload_n dX12_goesWide_45 rfl ?_
    refine n_getp (ji := 28) dX12_goesWide_46 zf_X12_72 k_113 rfl (by decide) rfl p_113_28 ?_
    refine z_aload_n dX12_goesWide_49 rfl ?_
    refine n_getp (ji := 14) dX12_goesWide_50 zf_X12_39 k_113 rfl (by decide) rfl p_113_14 ?_
    refine z_iload dX12_goesWide_53 rfl ?_
    refine n_iald dX12_goesWide_55 k_123 (h.2 q2).2.2.2.1 ?_
    refine n_zald dX12_goesWide_56 k_134 (h.2 q2).2.2.2.2.1 ?_
    refine z_if_ne (tgt := 130) dX12_goesWide_57 (by decide) (fun q3 => ?_) (fun q4 => ?_)
    · refine n_iinc (lo' := [some (2, 113), none, some (0, v2), some (0, v3), some (0, v4 + 1), some (0, (4 * (μ 131 v3)) + v4)]) dX12_goesWide_130 rfl (by decide) ((h.2 q2).2.2.2.2.2.1 q3).1 rfl ?_
      refine z_goto (tgt := 26) dX12_goesWide_133 (by decide) ?_
      refine z_drop [some (2, 113), none, some (0, v2), some (0, v3), some (0, v4 + 1), none] ⟨rfl, rfl, rfl, rfl, trivial⟩ ?_
      exact ((h.2 q2).2.2.2.2.2.1 q3).2
    · refine z_aload_n dX12_goesWide_60 rfl ?_
      refine n_getp (ji := 28) dX12_goesWide_61 zf_X12_72 k_113 rfl (by decide) rfl p_113_28 ?_
      refine z_aload_n dX12_goesWide_64 rfl ?_
      refine n_getp (ji := 14) dX12_goesWide_65 zf_X12_39 k_113 rfl (by decide) rfl p_113_14 ?_
      refine z_iload dX12_goesWide_68 rfl ?_
      refine n_iald dX12_goesWide_70 k_123 ((h.2 q2).2.2.2.2.2.2 q4).1 ?_
      refine z_iconst dX12_goesWide_71 ⟨by decide, by decide⟩ ?_
      refine n_zast dX12_goesWide_72 k_134 ((h.2 q2).2.2.2.2.2.2 q4).2.1 (by decide) ?_
      refine z_aload_n dX12_goesWide_73 rfl ?_
      refine n_getp (ji := 0) dX12_goesWide_74 zf_X12_9 k_113 rfl (by decide) rfl p_113_0 ?_
      refine z_bipush dX12_goesWide_77 (by decide) ?_
      refine z_aload_n dX12_goesWide_79 rfl ?_
      refine n_getp (ji := 17) dX12_goesWide_80 zf_X12_48 k_113 rfl (by decide) rfl p_113_17 ?_
      refine z_iload dX12_goesWide_83 rfl ?_
      refine n_iald dX12_goesWide_85 k_126 ((h.2 q2).2.2.2.2.2.2 q4).2.2.1 ?_
      refine z_iadd dX12_goesWide_86 ((h.2 q2).2.2.2.2.2.2 q4).2.2.2.1 ?_
      refine z_iconst dX12_goesWide_87 ⟨by decide, by decide⟩ ?_
      refine n_iast dX12_goesWide_88 k_114 ((h.2 q2).2.2.2.2.2.2 q4).2.2.2.2.1 ?_
      refine z_aload_n dX12_goesWide_89 rfl ?_
      refine n_getp (ji := 27) dX12_goesWide_90 zf_X12_69 k_113 rfl (by decide) rfl p_113_27 ?_
      refine z_aload_n dX12_goesWide_93 rfl ?_
      refine n_getp (ji := 14) dX12_goesWide_94 zf_X12_39 k_113 rfl (by decide) rfl p_113_14 ?_
      refine z_iload dX12_goesWide_97 rfl ?_
      refine n_iald dX12_goesWide_99 k_123 ((h.2 q2).2.2.2.2.2.2 q4).2.2.2.2.2.1 ?_
      refine z_aload_n dX12_goesWide_100 rfl ?_
      refine n_getp (ji := 27) dX12_goesWide_101 zf_X12_69 k_113 rfl (by decide) rfl p_113_27 ?_
      refine z_aload_n dX12_goesWide_104 rfl ?_
      refine n_getp (ji := 25) dX12_goesWide_105 zf_X12_63 k_113 rfl (by decide) rfl p_113_25 ?_
      refine z_iload_n dX12_goesWide_108 rfl ?_
      refine n_iald dX12_goesWide_109 k_131 ((h.2 q2).2.2.2.2.2.2 q4).2.2.2.2.2.2.1 ?_
      refine n_iald dX12_goesWide_110 k_133 ((h.2 q2).2.2.2.2.2.2 q4).2.2.2.2.2.2.2.1 ?_
      refine z_iconst dX12_goesWide_111 ⟨by decide, by decide⟩ ?_
      refine z_iadd dX12_goesWide_112 ((h.2 q2).2.2.2.2.2.2 q4).2.2.2.2.2.2.2.2.1 ?_
      refine n_iast dX12_goesWide_113 k_133 ((h.2 q2).2.2.2.2.2.2 q4).2.2.2.2.2.2.2.2.2.1 ?_
      refine z_aload_n dX12_goesWide_114 rfl ?_
      refine n_getp (ji := 25) dX12_goesWide_115 zf_X12_63 k_113 rfl (by decide) rfl p_113_25 ?_
      refine z_iload_n dX12_goesWide_118 rfl ?_
      refine z_aload_n dX12_goesWide_119 rfl ?_
      refine n_getp (ji := 14) dX12_goesWide_120 zf_X12_39 k_113 rfl (by decide) rfl p_113_14 ?_
      refine z_iload dX12_goesWide_123 rfl ?_
      refine n_iald dX12_goesWide_125 k_123 ((h.2 q2).2.2.2.2.2.2 q4).2.2.2.2.2.2.2.2.2.2.1 ?_
      refine n_iast dX12_goesWide_126 k_131 ((h.2 q2).2.2.2.2.2.2 q4).2.2.2.2.2.2.2.2.2.2.2.1 ?_
      refine n_iinc (lo' := [some (2, 113), none, some (0, v2 + 1), some (0, v3), some (0, v4), some (0, (4 * (μ 131 v3)) + v4)]) dX12_goesWide_127 rfl (by decide) ((h.2 q2).2.2.2.2.2.2 q4).2.2.2.2.2.2.2.2.2.2.2.2.1 rfl ?_
      refine n_iinc (lo' := [some (2, 113), none, some (0, v2 + 1), some (0, v3), some (0, v4 + 1), some (0, (4 * (μ 131 v3)) + v4)]) dX12_goesWide_130 rfl (by decide) ((h.2 q2).2.2.2.2.2.2 q4).2.2.2.2.2.2.2.2.2.2.2.2.2.1 rfl ?_
      refine z_goto (tgt := 26) dX12_goesWide_133 (by decide) ?_
      refine z_drop [some (2, 113), none, some (0, v2 + 1), some (0, v3), some (0, v4 + 1), none] ⟨rfl, rfl, rfl, rfl, trivial⟩ ?_
      exact ((h.2 q2).2.2.2.2.2.2 q4).2.2.2.2.2.2.2.2.2.2.2.2.2.2
set_option maxRecDepth 20000 in
theorem V_X12_tree {a : Int}  {μ : z_Mem} {d : Nat} {K : Int → z_Mem → Prop} (h : (μ 113 21 = 0 → K (-1) μ) ∧ (¬ μ 113 21 = 0 → z_ci m_X12_in [(1, a), (1, 0), (1, 1)] μ d (fun x5 m3 => (¬ x5 = 0 → z_cn m_X12_keepsPast [(2, 113)] m3 d (fun m8 => z_cn m_X12_cutsAll [(2, 113)] m8 d (fun m10 => z_ri m_X12_tree 29 [some (2, 113), some (0, a), some (0, 0), none] m10 (d + 1) K))) ∧ (x5 = 0 → K (-1) m3)))) : z_ci m_X12_tree [(2, 113), (0, a)] μ (d + 1) K := by
  show z_R m_X12_tree 0 [some (2, 113), some (0, a), none, none] [] z_n μ (d + 1) _
  refine z_aload_n dX12_tree_0 rfl ?_
  refine n_getf (ji := 21) (t := 0) dX12_tree_1 zf_X12_205 k_113 rfl (by decide) rfl ?_
  refine z_if_eq (tgt := 17) dX12_tree_4 (by decide) (fun q1 => ?_) (fun q2 => ?_)
  · refine z_iconst dX12_tree_17 ⟨by decide, by decide⟩ ?_
    exact z_ireturn dX12_tree_18 rfl rfl ⟨_, rfl, (h.1 q1)⟩
  · refine z_iload_n dX12_tree_7 rfl ?_
    refine z_i2l_ dX12_tree_8 ?_
    refine z_lconst0 dX12_tree_9 ?_
    refine z_lconst1 dX12_tree_10 ?_
    refine n_sI (as := [(1, a), (1, 0), (1, 1)]) (rest := []) dX12_tree_11 zm_X12_in zs_X12_143 rfl rfl (Nat.le_of_ble_eq_true rfl) (Nat.le_of_ble_eq_true rfl) (h.2 q2) (fun x5 m3 h4 => ?_)
    refine z_if_ne (tgt := 19) dX12_tree_14 (by decide) (fun q6 => ?_) (fun q7 => ?_)
    · refine z_aload_n dX12_tree_19 rfl ?_
      refine n_vN (as := []) (rest := []) dX12_tree_20 zm_X12_keepsPast zs_X12_275 k_113 (by decide) rfl rfl (Nat.le_of_ble_eq_true rfl) (Nat.le_of_ble_eq_true rfl) (h4.1 q6) (fun m8 h9 => ?_)
      refine z_aload_n dX12_tree_23 rfl ?_
      refine n_vN (as := []) (rest := []) dX12_tree_24 zm_X12_cutsAll zs_X12_283 k_113 (by decide) rfl rfl (Nat.le_of_ble_eq_true rfl) (Nat.le_of_ble_eq_true rfl) h9 (fun m10 h11 => ?_)
      refine z_iconst dX12_tree_27 ⟨by decide, by decide⟩ ?_
      refine n_istore_n (lo' := [some (2, 113), some (0, a), some (0, 0), none]) dX12_tree_28 ⟨Nat.le_of_ble_eq_true rfl, Nat.le_of_ble_eq_true rfl⟩ rfl ?_
      refine z_drop [some (2, 113), some (0, a), some (0, 0), none] ⟨rfl, rfl, rfl, trivial⟩ ?_
      exact h11
    · refine z_iconst dX12_tree_17 ⟨by decide, by decide⟩ ?_
      exact z_ireturn dX12_tree_18 rfl rfl ⟨_, rfl, (h4.2 q7)⟩
set_option maxRecDepth 20000 in
theorem V_X12_tree_29 {v1 v2 : Int}  {μ : z_Mem} {d : Nat} {K : Int → z_Mem → Prop} (h : (μ 113 21 ≤ v2 → (¬ v1 = 0 → z_cn m_X12_goesDeep [(2, 113), (0, μ 114 22)] μ d (fun m5 => z_ri m_X12_tree 90 [some (2, 113), none, some (0, 0), some (0, 0)] m5 (d + 1) K)) ∧ (v1 = 0 → z_cn m_X12_goesWide [(2, 113), (0, μ 114 22)] μ d (fun m7 => z_ri m_X12_tree 90 [some (2, 113), none, some (0, 0), some (0, 0)] m7 (d + 1) K))) ∧ (v2 < μ 113 21 → ((0 : Int) ≤ v2 ∧ v2 < 30) ∧ (((0 : Int) ≤ v2 ∧ v2 < 30) ∧ (z_I (v2 + 1) ∧ (z_ri m_X12_tree 29 [some (2, 113), some (0, v1), some (0, v2 + 1), none] (z_st (z_st μ 134 v2 0) 133 v2 0) (d + 1) K))))) : z_ri m_X12_tree 29 [some (2, 113), some (0, v1), some (0, v2), none] μ (d + 1) K := by
  show z_R m_X12_tree 29 [some (2, 113), some (0, v1), some (0, v2), none] [] z_n μ (d + 1) _
  refine z_iload_n dX12_tree_29 rfl ?_
  refine z_aload_n dX12_tree_30 rfl ?_
  refine n_getf (ji := 21) (t := 0) dX12_tree_31 zf_X12_205 k_113 rfl (by decide) rfl ?_
  refine z_icmp_ge (tgt := 57) dX12_tree_34 (by decide) (fun q1 => ?_) (fun q2 => ?_)
  · refine z_iload_n dX12_tree_57 rfl ?_
    refine z_if_ne (tgt := 75) dX12_tree_58 (by decide) (fun q3 => ?_) (fun q4 => ?_)
    · refine z_aload_n dX12_tree_75 rfl ?_
      refine z_aload_n dX12_tree_76 rfl ?_
      refine n_getp (ji := 0) dX12_tree_77 zf_X12_9 k_113 rfl (by decide) rfl p_113_0 ?_
      refine z_bipush dX12_tree_80 (by decide) ?_
      refine n_iald dX12_tree_82 k_114 (by decide) ?_
      refine n_vN (as := [(0, μ 114 22)]) (rest := []) dX12_tree_83 zm_X12_goesDeep zs_X12_286 k_113 (by decide) rfl rfl (Nat.le_of_ble_eq_true rfl) (Nat.le_of_ble_eq_true rfl) ((h.1 q1).1 q3) (fun m5 h6 => ?_)
      refine z_iconst dX12_tree_86 ⟨by decide, by decide⟩ ?_
      refine n_istore_n (lo' := [some (2, 113), some (0, v1), some (0, 0), none]) dX12_tree_87 ⟨Nat.le_of_ble_eq_true rfl, Nat.le_of_ble_eq_true rfl⟩ rfl ?_
      refine z_iconst dX12_tree_88 ⟨by decide, by decide⟩ ?_
      refine n_istore_n (lo' := [some (2, 113), some (0, v1), some (0, 0), some (0, 0)]) dX12_tree_89 ⟨Nat.le_of_ble_eq_true rfl, Nat.le_of_ble_eq_true rfl⟩ rfl ?_
      refine z_drop [some (2, 113), none, some (0, 0), some (0, 0)] ⟨rfl, rfl, rfl, trivial⟩ ?_
      exact h6
    · refine z_aload_n dX12_tree_61 rfl ?_
      refine z_aload_n dX12_tree_62 rfl ?_
      refine n_getp (ji := 0) dX12_tree_63 zf_X12_9 k_113 rfl (by decide) rfl p_113_0 ?_
      refine z_bipush dX12_tree_66 (by decide) ?_
      refine n_iald dX12_tree_68 k_114 (by decide) ?_
      refine n_vN (as := [(0, μ 114 22)]) (rest := []) dX12_tree_69 zm_X12_goesWide zs_X12_289 k_113 (by decide) rfl rfl (Nat.le_of_ble_eq_true rfl) (Nat.le_of_ble_eq_true rfl) ((h.1 q1).2 q4) (fun m7 h8 => ?_)
      refine z_goto (tgt := 86) dX12_tree_72 (by decide) ?_
      refine z_iconst dX12_tree_86 ⟨by decide, by decide⟩ ?_
      refine n_istore_n (lo' := [some (2, 113), some (0, v1), some (0, 0), none]) dX12_tree_87 ⟨Nat.le_of_ble_eq_true rfl, Nat.le_of_ble_eq_true rfl⟩ rfl ?_
      refine z_iconst dX12_tree_88 ⟨by decide, by decide⟩ ?_
      refine n_istore_n (lo' := [some (2, 113), some (0, v1), some (0, 0), some (0, 0)]) dX12_tree_89 ⟨Nat.le_of_ble_eq_true rfl, Nat.le_of_ble_eq_true rfl⟩ rfl ?_
      refine z_drop [some (2, 113), none, some (0, 0), some (0, 0)] ⟨rfl, rfl, rfl, trivial⟩ ?_
      exact h8
  · refine z_aload_n dX12_tree_37 rfl ?_
    refine n_getp (ji := 28) dX12_tree_38 zf_X12_72 k_113 rfl (by decide) rfl p_113_28 ?_
    refine z_iload_n dX12_tree_41 rfl ?_
    refine z_iconst dX12_tree_42 ⟨by decide, by decide⟩ ?_
    refine n_zast dX12_tree_43 k_134 (h.2 q2).1 (by decide) ?_
    refine z_aload_n dX12_tree_44 rfl ?_
    refine n_getp (ji := 27) dX12_tree_45 zf_X12_69 k_113 rfl (by decide) rfl p_113_27 ?_
    refine z_iload_n dX12_tree_48 rfl ?_
    refine z_iconst dX12_tree_49 ⟨by decide, by decide⟩ ?_
    refine n_iast dX12_tree_50 k_133 (h.2 q2).2.1 ?_
    refine n_iinc (lo' := [some (2, 113), some (0, v1), some (0, v2 + 1), none]) dX12_tree_51 rfl (by decide) (h.2 q2).2.2.1 rfl ?_
    refine z_goto (tgt := 29) dX12_tree_54 (by decide) ?_
    refine z_drop [some (2, 113), some (0, v1), some (0, v2 + 1), none] ⟨rfl, rfl, rfl, trivial⟩ ?_
    exact (h.2 q2).2.2.2
set_option maxRecDepth 20000 in
theorem V_X12_tree_90 {v2 v3 : Int}  {μ : z_Mem} {d : Nat} {K : Int → z_Mem → Prop} (h : (μ 113 21 ≤ v3 → K v2 μ) ∧ (v3 < μ 113 21 → ((0 : Int) ≤ v3 ∧ v3 < 30) ∧ (z_I (v3 + 1) ∧ (z_ri m_X12_tree 90 [some (2, 113), none, some (0, max v2 (μ 133 v3)), some (0, v3 + 1)] μ (d + 1) K)))) : z_ri m_X12_tree 90 [some (2, 113), none, some (0, v2), some (0, v3)] μ (d + 1) K := by
  show z_R m_X12_tree 90 [some (2, 113), none, some (0, v2), some (0, v3)] [] z_n μ (d + 1) _
  refine z_iload_n dX12_tree_90 rfl ?_
  refine z_aload_n dX12_tree_91 rfl ?_
  refine n_getf (ji := 21) (t := 0) dX12_tree_92 zf_X12_205 k_113 rfl (by decide) rfl ?_
  refine z_icmp_ge (tgt := 115) dX12_tree_95 (by decide) (fun q1 => ?_) (fun q2 => ?_)
  · refine z_iload_n dX12_tree_115 rfl ?_
    exact z_ireturn dX12_tree_116 rfl rfl ⟨_, rfl, (h.1 q1)⟩
  · refine z_iload_n dX12_tree_98 rfl ?_
    refine z_aload_n dX12_tree_99 rfl ?_
    refine n_getp (ji := 27) dX12_tree_100 zf_X12_69 k_113 rfl (by decide) rfl p_113_27 ?_
    refine z_iload_n dX12_tree_103 rfl ?_
    refine n_iald dX12_tree_104 k_133 (h.2 q2).1 ?_
    refine z_mmax dX12_tree_105 zq_1559 zq_675 zq_133 zq_676 (Nat.le_of_ble_eq_true rfl) ?_
    refine n_istore_n (lo' := [some (2, 113), none, some (0, max v2 (μ 133 v3)), some (0, v3)]) dX12_tree_108 ⟨Nat.le_of_ble_eq_true rfl, Nat.le_of_ble_eq_true rfl⟩ rfl ?_
    refine n_iinc (lo' := [some (2, 113), none, some (0, max v2 (μ 133 v3)), some (0, v3 + 1)]) dX12_tree_109 rfl (by decide) (h.2 q2).2.1 rfl ?_
    refine z_goto (tgt := 90) dX12_tree_112 (by decide) ?_
    refine z_drop [some (2, 113), none, some (0, max v2 (μ 133 v3)), some (0, v3 + 1)] ⟨rfl, rfl, rfl, trivial⟩ ?_
    exact (h.2 q2).2.2
set_option maxRecDepth 20000 in
theorem V_X12_stepX {a : Int}  {μ : z_Mem} {d : Nat} {K : Int → z_Mem → Prop} (h : (¬ a = 0 → (¬ a = 2 → K 0 μ) ∧ (a = 2 → K (-1) μ)) ∧ (a = 0 → K 1 μ)) : z_ci m_X12_stepX [(0, a)] μ d K := by
  show z_R m_X12_stepX 0 [some (0, a)] [] z_n μ d _
  refine z_iload_n dX12_stepX_0 rfl ?_
  refine z_if_ne (tgt := 8) dX12_stepX_1 (by decide) (fun q1 => ?_) (fun q2 => ?_)
  · refine z_iload_n dX12_stepX_8 rfl ?_
    refine z_iconst dX12_stepX_9 ⟨by decide, by decide⟩ ?_
    refine z_icmp_ne (tgt := 17) dX12_stepX_10 (by decide) (fun q3 => ?_) (fun q4 => ?_)
    · refine z_iconst dX12_stepX_17 ⟨by decide, by decide⟩ ?_
      exact z_ireturn dX12_stepX_18 rfl rfl ⟨_, rfl, ((h.1 q1).1 q3)⟩
    · refine z_iconst dX12_stepX_13 ⟨by decide, by decide⟩ ?_
      refine z_goto (tgt := 18) dX12_stepX_14 (by decide) ?_
      exact z_ireturn dX12_stepX_18 rfl rfl ⟨_, rfl, ((h.1 q1).2 q4)⟩
  · refine z_iconst dX12_stepX_4 ⟨by decide, by decide⟩ ?_
    refine z_goto (tgt := 18) dX12_stepX_5 (by decide) ?_
    exact z_ireturn dX12_stepX_18 rfl rfl ⟨_, rfl, (h.2 q2)⟩
set_option maxRecDepth 20000 in
theorem V_X12_stepY {a : Int}  {μ : z_Mem} {d : Nat} {K : Int → z_Mem → Prop} (h : (¬ a = 1 → (¬ a = 3 → K 0 μ) ∧ (a = 3 → K (-1) μ)) ∧ (a = 1 → K 1 μ)) : z_ci m_X12_stepY [(0, a)] μ d K := by
  show z_R m_X12_stepY 0 [some (0, a)] [] z_n μ d _
  refine z_iload_n dX12_stepY_0 rfl ?_
  refine z_iconst dX12_stepY_1 ⟨by decide, by decide⟩ ?_
  refine z_icmp_ne (tgt := 9) dX12_stepY_2 (by decide) (fun q1 => ?_) (fun q2 => ?_)
  · refine z_iload_n dX12_stepY_9 rfl ?_
    refine z_iconst dX12_stepY_10 ⟨by decide, by decide⟩ ?_
    refine z_icmp_ne (tgt := 18) dX12_stepY_11 (by decide) (fun q3 => ?_) (fun q4 => ?_)
    · refine z_iconst dX12_stepY_18 ⟨by decide, by decide⟩ ?_
      exact z_ireturn dX12_stepY_19 rfl rfl ⟨_, rfl, ((h.1 q1).1 q3)⟩
    · refine z_iconst dX12_stepY_14 ⟨by decide, by decide⟩ ?_
      refine z_goto (tgt := 19) dX12_stepY_15 (by decide) ?_
      exact z_ireturn dX12_stepY_19 rfl rfl ⟨_, rfl, ((h.1 q1).2 q4)⟩
  · refine z_iconst dX12_stepY_5 ⟨by decide, by decide⟩ ?_
    refine z_goto (tgt := 19) dX12_stepY_6 (by decide) ?_
    exact z_ireturn dX12_stepY_19 rfl rfl ⟨_, rfl, (h.2 q2)⟩
set_option maxRecDepth 20000 in
theorem V_X12_rolls {a : Int}  {μ : z_Mem} {d : Nat} {K : z_Mem → Prop} (h : ((0 : Int) ≤ a) ∧ (((0 : Int) ≤ a ∧ a < 120) ∧ (((0 : Int) ≤ a / 4 ∧ a / 4 < 30) ∧ (z_I (a + (μ 137 (a / 4))) ∧ (((0 : Int) ≤ a + (μ 137 (a / 4))) ∧ (((0 : Int) ≤ a / 4 ∧ a / 4 < 30) ∧ (z_ci m_X12_stepX [(0, (a + (μ 137 (a / 4))) % 4)] μ d (fun x3 m1 => z_I ((μ 135 (a / 4)) + x3) ∧ (((0 : Int) ≤ μ 123 a ∧ μ 123 a < 30) ∧ (((0 : Int) ≤ a / 4 ∧ a / 4 < 30) ∧ (z_ci m_X12_stepY [(0, (a + (μ 137 (a / 4))) % 4)] (z_st m1 135 (μ 123 a) ((μ 135 (a / 4)) + x3)) d (fun x6 m4 => z_I (((z_st m1 135 (μ 123 a) ((μ 135 (a / 4)) + x3)) 136 (a / 4)) + x6) ∧ (((0 : Int) ≤ μ 123 a ∧ μ 123 a < 30) ∧ (z_I (((a + (μ 137 (a / 4))) % 4) + 2) ∧ (((0 : Int) ≤ a ∧ a < 120) ∧ (z_I ((((a + (μ 137 (a / 4))) % 4) + 2) - ((z_st m4 136 (μ 123 a) (((z_st m1 135 (μ 123 a) ((μ 135 (a / 4)) + x3)) 136 (a / 4)) + x6)) 124 a)) ∧ (z_I (((((a + (μ 137 (a / 4))) % 4) + 2) - ((z_st m4 136 (μ 123 a) (((z_st m1 135 (μ 123 a) ((μ 135 (a / 4)) + x3)) 136 (a / 4)) + x6)) 124 a)) + 4) ∧ (((0 : Int) ≤ ((((a + (μ 137 (a / 4))) % 4) + 2) - ((z_st m4 136 (μ 123 a) (((z_st m1 135 (μ 123 a) ((μ 135 (a / 4)) + x3)) 136 (a / 4)) + x6)) 124 a)) + 4) ∧ (((0 : Int) ≤ μ 123 a ∧ μ 123 a < 30) ∧ (K (z_st (z_st m4 136 (μ 123 a) (((z_st m1 135 (μ 123 a) ((μ 135 (a / 4)) + x3)) 136 (a / 4)) + x6)) 137 (μ 123 a) ((((((a + (μ 137 (a / 4))) % 4) + 2) - ((z_st m4 136 (μ 123 a) (((z_st m1 135 (μ 123 a) ((μ 135 (a / 4)) + x3)) 136 (a / 4)) + x6)) 124 a)) + 4) % 4)))))))))))))))))))))) : z_cn m_X12_rolls [(2, 113), (0, a)] μ (d + 1) K := by
  show z_R m_X12_rolls 0 [some (2, 113), some (0, a), none, none, none] [] z_n μ (d + 1) _
  refine z_iload_n dX12_rolls_0 rfl ?_
  refine z_iconst dX12_rolls_1 ⟨by decide, by decide⟩ ?_
  refine z_idiv dX12_rolls_2 h.1 (by decide) ?_
  refine n_istore_n (lo' := [some (2, 113), some (0, a), some (0, a / 4), none, none]) dX12_rolls_3 ⟨Nat.le_of_ble_eq_true rfl, Nat.le_of_ble_eq_true rfl⟩ rfl ?_
  refine z_aload_n dX12_rolls_4 rfl ?_
  refine n_getp (ji := 14) dX12_rolls_5 zf_X12_39 k_113 rfl (by decide) rfl p_113_14 ?_
  refine z_iload_n dX12_rolls_8 rfl ?_
  refine n_iald dX12_rolls_9 k_123 h.2.1 ?_
  refine n_istore_n (lo' := [some (2, 113), some (0, a), some (0, a / 4), some (0, μ 123 a), none]) dX12_rolls_10 ⟨Nat.le_of_ble_eq_true rfl, Nat.le_of_ble_eq_true rfl⟩ rfl ?_
  refine z_iload_n dX12_rolls_11 rfl ?_
  refine z_aload_n dX12_rolls_12 rfl ?_
  refine n_getp (ji := 31) dX12_rolls_13 zf_X12_81 k_113 rfl (by decide) rfl p_113_31 ?_
  refine z_iload_n dX12_rolls_16 rfl ?_
  refine n_iald dX12_rolls_17 k_137 h.2.2.1 ?_
  refine z_iadd dX12_rolls_18 h.2.2.2.1 ?_
  refine z_iconst dX12_rolls_19 ⟨by decide, by decide⟩ ?_
  refine z_irem dX12_rolls_20 h.2.2.2.2.1 (by decide) ?_
  refine n_istore (lo' := [some (2, 113), some (0, a), some (0, a / 4), some (0, μ 123 a), some (0, (a + (μ 137 (a / 4))) % 4)]) dX12_rolls_21 ⟨Nat.le_of_ble_eq_true rfl, Nat.le_of_ble_eq_true rfl⟩ rfl ?_
  refine z_aload_n dX12_rolls_23 rfl ?_
  refine n_getp (ji := 29) dX12_rolls_24 zf_X12_75 k_113 rfl (by decide) rfl p_113_29 ?_
  refine z_iload_n dX12_rolls_27 rfl ?_
  refine z_aload_n dX12_rolls_28 rfl ?_
  refine n_getp (ji := 29) dX12_rolls_29 zf_X12_75 k_113 rfl (by decide) rfl p_113_29 ?_
  refine z_iload_n dX12_rolls_32 rfl ?_
  refine n_iald dX12_rolls_33 k_135 h.2.2.2.2.2.1 ?_
  refine z_iload dX12_rolls_34 rfl ?_
  refine n_sI (as := [(0, (a + (μ 137 (a / 4))) % 4)]) (rest := [(0, μ 135 (a / 4)), (0, μ 123 a), (2, 135)]) dX12_rolls_36 zm_X12_stepX zs_X12_295 rfl rfl (Nat.le_of_ble_eq_true rfl) (Nat.le_of_ble_eq_true rfl) h.2.2.2.2.2.2 (fun x3 m1 h2 => ?_)
  refine z_iadd dX12_rolls_39 h2.1 ?_
  refine n_iast dX12_rolls_40 k_135 h2.2.1 ?_
  refine z_aload_n dX12_rolls_41 rfl ?_
  refine n_getp (ji := 30) dX12_rolls_42 zf_X12_78 k_113 rfl (by decide) rfl p_113_30 ?_
  refine z_iload_n dX12_rolls_45 rfl ?_
  refine z_aload_n dX12_rolls_46 rfl ?_
  refine n_getp (ji := 30) dX12_rolls_47 zf_X12_78 k_113 rfl (by decide) rfl p_113_30 ?_
  refine z_iload_n dX12_rolls_50 rfl ?_
  refine n_iald dX12_rolls_51 k_136 h2.2.2.1 ?_
  refine z_iload dX12_rolls_52 rfl ?_
  refine n_sI (as := [(0, (a + (μ 137 (a / 4))) % 4)]) (rest := [(0, (z_st m1 135 (μ 123 a) ((μ 135 (a / 4)) + x3)) 136 (a / 4)), (0, μ 123 a), (2, 136)]) dX12_rolls_54 zm_X12_stepY zs_X12_298 rfl rfl (Nat.le_of_ble_eq_true rfl) (Nat.le_of_ble_eq_true rfl) h2.2.2.2 (fun x6 m4 h5 => ?_)
  refine z_iadd dX12_rolls_57 h5.1 ?_
  refine n_iast dX12_rolls_58 k_136 h5.2.1 ?_
  refine z_aload_n dX12_rolls_59 rfl ?_
  refine n_getp (ji := 31) dX12_rolls_60 zf_X12_81 k_113 rfl (by decide) rfl p_113_31 ?_
  refine z_iload_n dX12_rolls_63 rfl ?_
  refine z_iload dX12_rolls_64 rfl ?_
  refine z_iconst dX12_rolls_66 ⟨by decide, by decide⟩ ?_
  refine z_iadd dX12_rolls_67 h5.2.2.1 ?_
  refine z_aload_n dX12_rolls_68 rfl ?_
  refine n_getp (ji := 15) dX12_rolls_69 zf_X12_42 k_113 rfl (by decide) rfl p_113_15 ?_
  refine z_iload_n dX12_rolls_72 rfl ?_
  refine n_iald dX12_rolls_73 k_124 h5.2.2.2.1 ?_
  refine z_isub dX12_rolls_74 h5.2.2.2.2.1 ?_
  refine z_iconst dX12_rolls_75 ⟨by decide, by decide⟩ ?_
  refine z_iadd dX12_rolls_76 h5.2.2.2.2.2.1 ?_
  refine z_iconst dX12_rolls_77 ⟨by decide, by decide⟩ ?_
  refine z_irem dX12_rolls_78 h5.2.2.2.2.2.2.1 (by decide) ?_
  refine n_iast dX12_rolls_79 k_137 h5.2.2.2.2.2.2.2.1 ?_
  exact z_return dX12_rolls_80 rfl rfl ⟨rfl, h5.2.2.2.2.2.2.2.2⟩
set_option maxRecDepth 20000 in
theorem V_X12_places  {μ : z_Mem} {d : Nat} {K : Int → z_Mem → Prop} (h : (¬ μ 113 21 = 0 → z_ci m_X12_joins [(2, 113), (0, μ 114 22)] μ d (fun x5 m3 => ((0 : Int) ≤ m3 114 22 ∧ m3 114 22 < 30) ∧ (((0 : Int) ≤ (z_st m3 135 (m3 114 22) 0) 114 22 ∧ (z_st m3 135 (m3 114 22) 0) 114 22 < 30) ∧ (((0 : Int) ≤ (z_st (z_st m3 135 (m3 114 22) 0) 136 ((z_st m3 135 (m3 114 22) 0) 114 22) 0) 114 22 ∧ (z_st (z_st m3 135 (m3 114 22) 0) 136 ((z_st m3 135 (m3 114 22) 0) 114 22) 0) 114 22 < 30) ∧ (z_ri m_X12_places 62 [some (2, 113), some (0, x5), some (0, 1)] (z_st (z_st (z_st m3 135 (m3 114 22) 0) 136 ((z_st m3 135 (m3 114 22) 0) 114 22) 0) 137 ((z_st (z_st m3 135 (m3 114 22) 0) 136 ((z_st m3 135 (m3 114 22) 0) 114 22) 0) 114 22) 0) (d + 1) K))))) ∧ (μ 113 21 = 0 → K 0 μ)) : z_ci m_X12_places [(2, 113)] μ (d + 1) K := by
  show z_R m_X12_places 0 [some (2, 113), none, none] [] z_n μ (d + 1) _
  refine z_aload_n dX12_places_0 rfl ?_
  refine n_getf (ji := 21) (t := 0) dX12_places_1 zf_X12_205 k_113 rfl (by decide) rfl ?_
  refine z_if_ne (tgt := 9) dX12_places_4 (by decide) (fun q1 => ?_) (fun q2 => ?_)
  · refine z_aload_n dX12_places_9 rfl ?_
    refine z_aload_n dX12_places_10 rfl ?_
    refine n_getp (ji := 0) dX12_places_11 zf_X12_9 k_113 rfl (by decide) rfl p_113_0 ?_
    refine z_bipush dX12_places_14 (by decide) ?_
    refine n_iald dX12_places_16 k_114 (by decide) ?_
    refine n_vI (as := [(0, μ 114 22)]) (rest := []) dX12_places_17 zm_X12_joins zs_X12_260 k_113 (by decide) rfl rfl (Nat.le_of_ble_eq_true rfl) (Nat.le_of_ble_eq_true rfl) (h.1 q1) (fun x5 m3 h4 => ?_)
    refine n_istore_n (lo' := [some (2, 113), some (0, x5), none]) dX12_places_20 ⟨Nat.le_of_ble_eq_true rfl, Nat.le_of_ble_eq_true rfl⟩ rfl ?_
    refine z_aload_n dX12_places_21 rfl ?_
    refine n_getp (ji := 29) dX12_places_22 zf_X12_75 k_113 rfl (by decide) rfl p_113_29 ?_
    refine z_aload_n dX12_places_25 rfl ?_
    refine n_getp (ji := 0) dX12_places_26 zf_X12_9 k_113 rfl (by decide) rfl p_113_0 ?_
    refine z_bipush dX12_places_29 (by decide) ?_
    refine n_iald dX12_places_31 k_114 (by decide) ?_
    refine z_iconst dX12_places_32 ⟨by decide, by decide⟩ ?_
    refine n_iast dX12_places_33 k_135 h4.1 ?_
    refine z_aload_n dX12_places_34 rfl ?_
    refine n_getp (ji := 30) dX12_places_35 zf_X12_78 k_113 rfl (by decide) rfl p_113_30 ?_
    refine z_aload_n dX12_places_38 rfl ?_
    refine n_getp (ji := 0) dX12_places_39 zf_X12_9 k_113 rfl (by decide) rfl p_113_0 ?_
    refine z_bipush dX12_places_42 (by decide) ?_
    refine n_iald dX12_places_44 k_114 (by decide) ?_
    refine z_iconst dX12_places_45 ⟨by decide, by decide⟩ ?_
    refine n_iast dX12_places_46 k_136 h4.2.1 ?_
    refine z_aload_n dX12_places_47 rfl ?_
    refine n_getp (ji := 31) dX12_places_48 zf_X12_81 k_113 rfl (by decide) rfl p_113_31 ?_
    refine z_aload_n dX12_places_51 rfl ?_
    refine n_getp (ji := 0) dX12_places_52 zf_X12_9 k_113 rfl (by decide) rfl p_113_0 ?_
    refine z_bipush dX12_places_55 (by decide) ?_
    refine n_iald dX12_places_57 k_114 (by decide) ?_
    refine z_iconst dX12_places_58 ⟨by decide, by decide⟩ ?_
    refine n_iast dX12_places_59 k_137 h4.2.2.1 ?_
    refine z_iconst dX12_places_60 ⟨by decide, by decide⟩ ?_
    refine n_istore_n (lo' := [some (2, 113), some (0, x5), some (0, 1)]) dX12_places_61 ⟨Nat.le_of_ble_eq_true rfl, Nat.le_of_ble_eq_true rfl⟩ rfl ?_
    refine z_drop [some (2, 113), some (0, x5), some (0, 1)] ⟨rfl, rfl, rfl, trivial⟩ ?_
    exact h4.2.2.2
  · refine z_iconst dX12_places_7 ⟨by decide, by decide⟩ ?_
    exact z_ireturn dX12_places_8 rfl rfl ⟨_, rfl, (h.2 q2)⟩
set_option maxRecDepth 20000 in
theorem V_X12_places_62 {v1 v2 : Int}  {μ : z_Mem} {d : Nat} {K : Int → z_Mem → Prop} (h : (v1 ≤ v2 → K v1 μ) ∧ (v2 < v1 → ((0 : Int) ≤ v2 ∧ v2 < 30) ∧ (((0 : Int) ≤ μ 131 v2 ∧ μ 131 v2 < 30) ∧ (z_cn m_X12_rolls [(2, 113), (0, μ 132 (μ 131 v2))] μ d (fun m3 => z_I (v2 + 1) ∧ (z_ri m_X12_places 62 [some (2, 113), some (0, v1), some (0, v2 + 1)] m3 (d + 1) K)))))) : z_ri m_X12_places 62 [some (2, 113), some (0, v1), some (0, v2)] μ (d + 1) K := by
  show z_R m_X12_places 62 [some (2, 113), some (0, v1), some (0, v2)] [] z_n μ (d + 1) _
  refine z_iload_n dX12_places_62 rfl ?_
  refine z_iload_n dX12_places_63 rfl ?_
  refine z_icmp_ge (tgt := 88) dX12_places_64 (by decide) (fun q1 => ?_) (fun q2 => ?_)
  · refine z_iload_n dX12_places_88 rfl ?_
    exact z_ireturn dX12_places_89 rfl rfl ⟨_, rfl, (h.1 q1)⟩
  · refine z_aload_n dX12_places_67 rfl ?_
    refine z_aload_n dX12_places_68 rfl ?_
    refine n_getp (ji := 26) dX12_places_69 zf_X12_66 k_113 rfl (by decide) rfl p_113_26 ?_
    refine z_aload_n dX12_places_72 rfl ?_
    refine n_getp (ji := 25) dX12_places_73 zf_X12_63 k_113 rfl (by decide) rfl p_113_25 ?_
    refine z_iload_n dX12_places_76 rfl ?_
    refine n_iald dX12_places_77 k_131 (h.2 q2).1 ?_
    refine n_iald dX12_places_78 k_132 (h.2 q2).2.1 ?_
    refine n_vN (as := [(0, μ 132 (μ 131 v2))]) (rest := []) dX12_places_79 zm_X12_rolls zs_X12_301 k_113 (by decide) rfl rfl (Nat.le_of_ble_eq_true rfl) (Nat.le_of_ble_eq_true rfl) (h.2 q2).2.2 (fun m3 h4 => ?_)
    refine n_iinc (lo' := [some (2, 113), some (0, v1), some (0, v2 + 1)]) dX12_places_82 rfl (by decide) h4.1 rfl ?_
    refine z_goto (tgt := 62) dX12_places_85 (by decide) ?_
    refine z_drop [some (2, 113), some (0, v1), some (0, v2 + 1)] ⟨rfl, rfl, rfl, trivial⟩ ?_
    exact h4.2
set_option maxRecDepth 20000 in
theorem V_X12_areOver {a b : Int}  {μ : z_Mem} {d : Nat} {K : Int → z_Mem → Prop} (h : ((0 : Int) ≤ a ∧ a < 30) ∧ ((μ 130 a = 0 → K 0 μ) ∧ (¬ μ 130 a = 0 → ((0 : Int) ≤ b ∧ b < 30) ∧ ((μ 130 b = 0 → K 0 μ) ∧ (¬ μ 130 b = 0 → ((0 : Int) ≤ a ∧ a < 30) ∧ (((0 : Int) ≤ b ∧ b < 30) ∧ ((¬ μ 135 a = μ 135 b → K 0 μ) ∧ (μ 135 a = μ 135 b → ((0 : Int) ≤ a ∧ a < 30) ∧ (((0 : Int) ≤ b ∧ b < 30) ∧ ((¬ μ 136 a = μ 136 b → K 0 μ) ∧ (μ 136 a = μ 136 b → K 1 μ))))))))))) : z_ci m_X12_areOver [(2, 113), (0, a), (0, b)] μ d K := by
  show z_R m_X12_areOver 0 [some (2, 113), some (0, a), some (0, b)] [] z_n μ d _
  refine z_aload_n dX12_areOver_0 rfl ?_
  refine n_getp (ji := 24) dX12_areOver_1 zf_X12_60 k_113 rfl (by decide) rfl p_113_24 ?_
  refine z_iload_n dX12_areOver_4 rfl ?_
  refine n_zald dX12_areOver_5 k_130 h.1 ?_
  refine z_if_eq (tgt := 52) dX12_areOver_6 (by decide) (fun q1 => ?_) (fun q2 => ?_)
  · refine z_iconst dX12_areOver_52 ⟨by decide, by decide⟩ ?_
    exact z_zreturn dX12_areOver_53 rfl rfl (by decide) ⟨_, rfl, (h.2.1 q1)⟩
  · refine z_aload_n dX12_areOver_9 rfl ?_
    refine n_getp (ji := 24) dX12_areOver_10 zf_X12_60 k_113 rfl (by decide) rfl p_113_24 ?_
    refine z_iload_n dX12_areOver_13 rfl ?_
    refine n_zald dX12_areOver_14 k_130 (h.2.2 q2).1 ?_
    refine z_if_eq (tgt := 52) dX12_areOver_15 (by decide) (fun q3 => ?_) (fun q4 => ?_)
    · refine z_iconst dX12_areOver_52 ⟨by decide, by decide⟩ ?_
      exact z_zreturn dX12_areOver_53 rfl rfl (by decide) ⟨_, rfl, ((h.2.2 q2).2.1 q3)⟩
    · refine z_aload_n dX12_areOver_18 rfl ?_
      refine n_getp (ji := 29) dX12_areOver_19 zf_X12_75 k_113 rfl (by decide) rfl p_113_29 ?_
      refine z_iload_n dX12_areOver_22 rfl ?_
      refine n_iald dX12_areOver_23 k_135 ((h.2.2 q2).2.2 q4).1 ?_
      refine z_aload_n dX12_areOver_24 rfl ?_
      refine n_getp (ji := 29) dX12_areOver_25 zf_X12_75 k_113 rfl (by decide) rfl p_113_29 ?_
      refine z_iload_n dX12_areOver_28 rfl ?_
      refine n_iald dX12_areOver_29 k_135 ((h.2.2 q2).2.2 q4).2.1 ?_
      refine z_icmp_ne (tgt := 52) dX12_areOver_30 (by decide) (fun q5 => ?_) (fun q6 => ?_)
      · refine z_iconst dX12_areOver_52 ⟨by decide, by decide⟩ ?_
        exact z_zreturn dX12_areOver_53 rfl rfl (by decide) ⟨_, rfl, (((h.2.2 q2).2.2 q4).2.2.1 q5)⟩
      · refine z_aload_n dX12_areOver_33 rfl ?_
        refine n_getp (ji := 30) dX12_areOver_34 zf_X12_78 k_113 rfl (by decide) rfl p_113_30 ?_
        refine z_iload_n dX12_areOver_37 rfl ?_
        refine n_iald dX12_areOver_38 k_136 (((h.2.2 q2).2.2 q4).2.2.2 q6).1 ?_
        refine z_aload_n dX12_areOver_39 rfl ?_
        refine n_getp (ji := 30) dX12_areOver_40 zf_X12_78 k_113 rfl (by decide) rfl p_113_30 ?_
        refine z_iload_n dX12_areOver_43 rfl ?_
        refine n_iald dX12_areOver_44 k_136 (((h.2.2 q2).2.2 q4).2.2.2 q6).2.1 ?_
        refine z_icmp_ne (tgt := 52) dX12_areOver_45 (by decide) (fun q7 => ?_) (fun q8 => ?_)
        · refine z_iconst dX12_areOver_52 ⟨by decide, by decide⟩ ?_
          exact z_zreturn dX12_areOver_53 rfl rfl (by decide) ⟨_, rfl, ((((h.2.2 q2).2.2 q4).2.2.2 q6).2.2.1 q7)⟩
        · refine z_iconst dX12_areOver_48 ⟨by decide, by decide⟩ ?_
          refine z_goto (tgt := 53) dX12_areOver_49 (by decide) ?_
          exact z_zreturn dX12_areOver_53 rfl rfl (by decide) ⟨_, rfl, ((((h.2.2 q2).2.2 q4).2.2.2 q6).2.2.2 q8)⟩
set_option maxRecDepth 20000 in
theorem V_X12_overlaps  {μ : z_Mem} {d : Nat} {K : Int → z_Mem → Prop} (h : z_ci m_X12_places [(2, 113)] μ d (fun x3 m1 => z_ri m_X12_overlaps 9 [some (2, 113), some (0, 0), some (0, 0), none] m1 (d + 1) K)) : z_ci m_X12_overlaps [(2, 113)] μ (d + 1) K := by
  show z_R m_X12_overlaps 0 [some (2, 113), none, none, none] [] z_n μ (d + 1) _
  refine z_aload_n dX12_overlaps_0 rfl ?_
  refine n_vI (as := []) (rest := []) dX12_overlaps_1 zm_X12_places zs_X12_304 k_113 (by decide) rfl rfl (Nat.le_of_ble_eq_true rfl) (Nat.le_of_ble_eq_true rfl) h (fun x3 m1 h2 => ?_)
  refine z_pop dX12_overlaps_4 rfl ?_
  refine z_iconst dX12_overlaps_5 ⟨by decide, by decide⟩ ?_
  refine n_istore_n (lo' := [some (2, 113), some (0, 0), none, none]) dX12_overlaps_6 ⟨Nat.le_of_ble_eq_true rfl, Nat.le_of_ble_eq_true rfl⟩ rfl ?_
  refine z_iconst dX12_overlaps_7 ⟨by decide, by decide⟩ ?_
  refine n_istore_n (lo' := [some (2, 113), some (0, 0), some (0, 0), none]) dX12_overlaps_8 ⟨Nat.le_of_ble_eq_true rfl, Nat.le_of_ble_eq_true rfl⟩ rfl ?_
  refine z_drop [some (2, 113), some (0, 0), some (0, 0), none] ⟨rfl, rfl, rfl, trivial⟩ ?_
  exact h2
set_option maxRecDepth 20000 in
theorem V_X12_overlaps_9 {v1 v2 : Int}  {μ : z_Mem} {d : Nat} {K : Int → z_Mem → Prop} (h : (μ 113 21 ≤ v2 → K v1 μ) ∧ (v2 < μ 113 21 → z_I (v2 + 1) ∧ (z_ri m_X12_overlaps 21 [some (2, 113), some (0, v1), some (0, v2), some (0, v2 + 1)] μ (d + 1) K))) : z_ri m_X12_overlaps 9 [some (2, 113), some (0, v1), some (0, v2), none] μ (d + 1) K := by
  show z_R m_X12_overlaps 9 [some (2, 113), some (0, v1), some (0, v2), none] [] z_n μ (d + 1) _
  refine z_iload_n dX12_overlaps_9 rfl ?_
  refine z_aload_n dX12_overlaps_10 rfl ?_
  refine n_getf (ji := 21) (t := 0) dX12_overlaps_11 zf_X12_205 k_113 rfl (by decide) rfl ?_
  refine z_icmp_ge (tgt := 53) dX12_overlaps_14 (by decide) (fun q1 => ?_) (fun q2 => ?_)
  · refine z_iload_n dX12_overlaps_53 rfl ?_
    exact z_ireturn dX12_overlaps_54 rfl rfl ⟨_, rfl, (h.1 q1)⟩
  · refine z_iload_n dX12_overlaps_17 rfl ?_
    refine z_iconst dX12_overlaps_18 ⟨by decide, by decide⟩ ?_
    refine z_iadd dX12_overlaps_19 (h.2 q2).1 ?_
    refine n_istore_n (lo' := [some (2, 113), some (0, v1), some (0, v2), some (0, v2 + 1)]) dX12_overlaps_20 ⟨Nat.le_of_ble_eq_true rfl, Nat.le_of_ble_eq_true rfl⟩ rfl ?_
    refine z_drop [some (2, 113), some (0, v1), some (0, v2), some (0, v2 + 1)] ⟨rfl, rfl, rfl, rfl, trivial⟩ ?_
    exact (h.2 q2).2
set_option maxRecDepth 20000 in
theorem V_X12_overlaps_21 {v1 v2 v3 : Int}  {μ : z_Mem} {d : Nat} {K : Int → z_Mem → Prop} (h : (μ 113 21 ≤ v3 → z_I (v2 + 1) ∧ (z_ri m_X12_overlaps 9 [some (2, 113), some (0, v1), some (0, v2 + 1), none] μ (d + 1) K)) ∧ (v3 < μ 113 21 → z_ci m_X12_areOver [(2, 113), (0, v2), (0, v3)] μ d (fun x5 m3 => z_ci m_X12_truth [(0, x5)] m3 d (fun x8 m6 => z_I (v1 + x8) ∧ (z_I (v3 + 1) ∧ (z_ri m_X12_overlaps 21 [some (2, 113), some (0, v1 + x8), some (0, v2), some (0, v3 + 1)] m6 (d + 1) K)))))) : z_ri m_X12_overlaps 21 [some (2, 113), some (0, v1), some (0, v2), some (0, v3)] μ (d + 1) K := by
  show z_R m_X12_overlaps 21 [some (2, 113), some (0, v1), some (0, v2), some (0, v3)] [] z_n μ (d + 1) _
  refine z_iload_n dX12_overlaps_21 rfl ?_
  refine z_aload_n dX12_overlaps_22 rfl ?_
  refine n_getf (ji := 21) (t := 0) dX12_overlaps_23 zf_X12_205 k_113 rfl (by decide) rfl ?_
  refine z_icmp_ge (tgt := 47) dX12_overlaps_26 (by decide) (fun q1 => ?_) (fun q2 => ?_)
  · refine n_iinc (lo' := [some (2, 113), some (0, v1), some (0, v2 + 1), some (0, v3)]) dX12_overlaps_47 rfl (by decide) (h.1 q1).1 rfl ?_
    refine z_goto (tgt := 9) dX12_overlaps_50 (by decide) ?_
    refine z_drop [some (2, 113), some (0, v1), some (0, v2 + 1), none] ⟨rfl, rfl, rfl, trivial⟩ ?_
    exact (h.1 q1).2
  · refine z_iload_n dX12_overlaps_29 rfl ?_
    refine z_aload_n dX12_overlaps_30 rfl ?_
    refine z_iload_n dX12_overlaps_31 rfl ?_
    refine z_iload_n dX12_overlaps_32 rfl ?_
    refine n_vI (as := [(0, v2), (0, v3)]) (rest := [(0, v1)]) dX12_overlaps_33 zm_X12_areOver zs_X12_307 k_113 (by decide) rfl rfl (Nat.le_of_ble_eq_true rfl) (Nat.le_of_ble_eq_true rfl) (h.2 q2) (fun x5 m3 h4 => ?_)
    refine n_sI (as := [(0, x5)]) (rest := [(0, v1)]) dX12_overlaps_36 zm_X12_truth zs_X12_185 rfl rfl (Nat.le_of_ble_eq_true rfl) (Nat.le_of_ble_eq_true rfl) h4 (fun x8 m6 h7 => ?_)
    refine z_iadd dX12_overlaps_39 h7.1 ?_
    refine n_istore_n (lo' := [some (2, 113), some (0, v1 + x8), some (0, v2), some (0, v3)]) dX12_overlaps_40 ⟨Nat.le_of_ble_eq_true rfl, Nat.le_of_ble_eq_true rfl⟩ rfl ?_
    refine n_iinc (lo' := [some (2, 113), some (0, v1 + x8), some (0, v2), some (0, v3 + 1)]) dX12_overlaps_41 rfl (by decide) h7.2.1 rfl ?_
    refine z_goto (tgt := 21) dX12_overlaps_44 (by decide) ?_
    refine z_drop [some (2, 113), some (0, v1 + x8), some (0, v2), some (0, v3 + 1)] ⟨rfl, rfl, rfl, rfl, trivial⟩ ?_
    exact h7.2.2
set_option maxRecDepth 20000 in
theorem V_X12_isFree {a : Int}  {μ : z_Mem} {d : Nat} {K : Int → z_Mem → Prop} (h : ((0 : Int) ≤ a ∧ a < 60) ∧ (((0 : Int) ≤ μ 127 a) ∧ (((0 : Int) ≤ μ 127 a ∧ μ 127 a < 120) ∧ (z_ci m_X12_isHinge [(2, 113), (0, a)] μ d (fun x3 m1 => (¬ x3 = 0 → K 0 m1) ∧ (x3 = 0 → ((0 : Int) ≤ (μ 127 a) / 4 ∧ (μ 127 a) / 4 < 30) ∧ ((m1 130 ((μ 127 a) / 4) = 0 → K 0 m1) ∧ (¬ m1 130 ((μ 127 a) / 4) = 0 → ((0 : Int) ≤ μ 123 (μ 127 a) ∧ μ 123 (μ 127 a) < 30) ∧ ((¬ m1 130 (μ 123 (μ 127 a)) = 0 → ((0 : Int) ≤ (μ 127 a) / 4 ∧ (μ 127 a) / 4 < 30) ∧ (z_I ((μ 127 a) + (m1 137 ((μ 127 a) / 4))) ∧ (((0 : Int) ≤ (μ 127 a) + (m1 137 ((μ 127 a) / 4))) ∧ (((0 : Int) ≤ μ 123 (μ 127 a) ∧ μ 123 (μ 127 a) < 30) ∧ (((0 : Int) ≤ (μ 127 a) / 4 ∧ (μ 127 a) / 4 < 30) ∧ (z_ci m_X12_stepX [(0, ((μ 127 a) + (m1 137 ((μ 127 a) / 4))) % 4)] m1 d (fun x12 m10 => z_I ((m1 135 ((μ 127 a) / 4)) + x12) ∧ ((¬ m1 135 (μ 123 (μ 127 a)) = (m1 135 ((μ 127 a) / 4)) + x12 → K 0 m10) ∧ (m1 135 (μ 123 (μ 127 a)) = (m1 135 ((μ 127 a) / 4)) + x12 → ((0 : Int) ≤ μ 123 (μ 127 a) ∧ μ 123 (μ 127 a) < 30) ∧ (((0 : Int) ≤ (μ 127 a) / 4 ∧ (μ 127 a) / 4 < 30) ∧ (z_ci m_X12_stepY [(0, ((μ 127 a) + (m1 137 ((μ 127 a) / 4))) % 4)] m10 d (fun x17 m15 => z_I ((m10 136 ((μ 127 a) / 4)) + x17) ∧ ((¬ m10 136 (μ 123 (μ 127 a)) = (m10 136 ((μ 127 a) / 4)) + x17 → K 0 m15) ∧ (m10 136 (μ 123 (μ 127 a)) = (m10 136 ((μ 127 a) / 4)) + x17 → ((0 : Int) ≤ μ 127 a ∧ μ 127 a < 120) ∧ (((0 : Int) ≤ μ 123 (μ 127 a) ∧ μ 123 (μ 127 a) < 30) ∧ (z_I ((m15 124 (μ 127 a)) + (m15 137 (μ 123 (μ 127 a)))) ∧ (((0 : Int) ≤ (m15 124 (μ 127 a)) + (m15 137 (μ 123 (μ 127 a)))) ∧ (z_I ((((μ 127 a) + (m1 137 ((μ 127 a) / 4))) % 4) + 2) ∧ (((0 : Int) ≤ (((μ 127 a) + (m1 137 ((μ 127 a) / 4))) % 4) + 2) ∧ ((¬ ((m15 124 (μ 127 a)) + (m15 137 (μ 123 (μ 127 a)))) % 4 = ((((μ 127 a) + (m1 137 ((μ 127 a) / 4))) % 4) + 2) % 4 → K 0 m15) ∧ (((m15 124 (μ 127 a)) + (m15 137 (μ 123 (μ 127 a)))) % 4 = ((((μ 127 a) + (m1 137 ((μ 127 a) / 4))) % 4) + 2) % 4 → K 1 m15))))))))))))))))))))) ∧ (m1 130 (μ 123 (μ 127 a)) = 0 → K 0 m1)))))))))) : z_ci m_X12_isFree [(2, 113), (0, a)] μ (d + 1) K := by
  show z_R m_X12_isFree 0 [some (2, 113), some (0, a), none, none, none, none] [] z_n μ (d + 1) _
  refine z_aload_n dX12_isFree_0 rfl ?_
  refine n_getp (ji := 18) dX12_isFree_1 zf_X12_51 k_113 rfl (by decide) rfl p_113_18 ?_
  refine z_iload_n dX12_isFree_4 rfl ?_
  refine n_iald dX12_isFree_5 k_127 h.1 ?_
  refine n_istore_n (lo' := [some (2, 113), some (0, a), some (0, μ 127 a), none, none, none]) dX12_isFree_6 ⟨Nat.le_of_ble_eq_true rfl, Nat.le_of_ble_eq_true rfl⟩ rfl ?_
  refine z_iload_n dX12_isFree_7 rfl ?_
  refine z_iconst dX12_isFree_8 ⟨by decide, by decide⟩ ?_
  refine z_idiv dX12_isFree_9 h.2.1 (by decide) ?_
  refine n_istore_n (lo' := [some (2, 113), some (0, a), some (0, μ 127 a), some (0, (μ 127 a) / 4), none, none]) dX12_isFree_10 ⟨Nat.le_of_ble_eq_true rfl, Nat.le_of_ble_eq_true rfl⟩ rfl ?_
  refine z_aload_n dX12_isFree_11 rfl ?_
  refine n_getp (ji := 14) dX12_isFree_12 zf_X12_39 k_113 rfl (by decide) rfl p_113_14 ?_
  refine z_iload_n dX12_isFree_15 rfl ?_
  refine n_iald dX12_isFree_16 k_123 h.2.2.1 ?_
  refine n_istore (lo' := [some (2, 113), some (0, a), some (0, μ 127 a), some (0, (μ 127 a) / 4), some (0, μ 123 (μ 127 a)), none]) dX12_isFree_17 ⟨Nat.le_of_ble_eq_true rfl, Nat.le_of_ble_eq_true rfl⟩ rfl ?_
  refine z_aload_n dX12_isFree_19 rfl ?_
  refine z_iload_n dX12_isFree_20 rfl ?_
  refine n_vI (as := [(0, a)]) (rest := []) dX12_isFree_21 zm_X12_isHinge zs_X12_257 k_113 (by decide) rfl rfl (Nat.le_of_ble_eq_true rfl) (Nat.le_of_ble_eq_true rfl) h.2.2.2 (fun x3 m1 h2 => ?_)
  refine z_if_ne (tgt := 46) dX12_isFree_24 (by decide) (fun q4 => ?_) (fun q5 => ?_)
  · refine z_iconst dX12_isFree_46 ⟨by decide, by decide⟩ ?_
    exact z_zreturn dX12_isFree_47 rfl rfl (by decide) ⟨_, rfl, (h2.1 q4)⟩
  · refine z_aload_n dX12_isFree_27 rfl ?_
    refine n_getp (ji := 24) dX12_isFree_28 zf_X12_60 k_113 rfl (by decide) rfl p_113_24 ?_
    refine z_iload_n dX12_isFree_31 rfl ?_
    refine n_zald dX12_isFree_32 k_130 (h2.2 q5).1 ?_
    refine z_if_eq (tgt := 46) dX12_isFree_33 (by decide) (fun q6 => ?_) (fun q7 => ?_)
    · refine z_iconst dX12_isFree_46 ⟨by decide, by decide⟩ ?_
      exact z_zreturn dX12_isFree_47 rfl rfl (by decide) ⟨_, rfl, ((h2.2 q5).2.1 q6)⟩
    · refine z_aload_n dX12_isFree_36 rfl ?_
      refine n_getp (ji := 24) dX12_isFree_37 zf_X12_60 k_113 rfl (by decide) rfl p_113_24 ?_
      refine z_iload dX12_isFree_40 rfl ?_
      refine n_zald dX12_isFree_42 k_130 ((h2.2 q5).2.2 q7).1 ?_
      refine z_if_ne (tgt := 48) dX12_isFree_43 (by decide) (fun q8 => ?_) (fun q9 => ?_)
      · refine z_iload_n dX12_isFree_48 rfl ?_
        refine z_aload_n dX12_isFree_49 rfl ?_
        refine n_getp (ji := 31) dX12_isFree_50 zf_X12_81 k_113 rfl (by decide) rfl p_113_31 ?_
        refine z_iload_n dX12_isFree_53 rfl ?_
        refine n_iald dX12_isFree_54 k_137 (((h2.2 q5).2.2 q7).2.1 q8).1 ?_
        refine z_iadd dX12_isFree_55 (((h2.2 q5).2.2 q7).2.1 q8).2.1 ?_
        refine z_iconst dX12_isFree_56 ⟨by decide, by decide⟩ ?_
        refine z_irem dX12_isFree_57 (((h2.2 q5).2.2 q7).2.1 q8).2.2.1 (by decide) ?_
        refine n_istore (lo' := [some (2, 113), some (0, a), some (0, μ 127 a), some (0, (μ 127 a) / 4), some (0, μ 123 (μ 127 a)), some (0, ((μ 127 a) + (m1 137 ((μ 127 a) / 4))) % 4)]) dX12_isFree_58 ⟨Nat.le_of_ble_eq_true rfl, Nat.le_of_ble_eq_true rfl⟩ rfl ?_
        refine z_aload_n dX12_isFree_60 rfl ?_
        refine n_getp (ji := 29) dX12_isFree_61 zf_X12_75 k_113 rfl (by decide) rfl p_113_29 ?_
        refine z_iload dX12_isFree_64 rfl ?_
        refine n_iald dX12_isFree_66 k_135 (((h2.2 q5).2.2 q7).2.1 q8).2.2.2.1 ?_
        refine z_aload_n dX12_isFree_67 rfl ?_
        refine n_getp (ji := 29) dX12_isFree_68 zf_X12_75 k_113 rfl (by decide) rfl p_113_29 ?_
        refine z_iload_n dX12_isFree_71 rfl ?_
        refine n_iald dX12_isFree_72 k_135 (((h2.2 q5).2.2 q7).2.1 q8).2.2.2.2.1 ?_
        refine z_iload dX12_isFree_73 rfl ?_
        refine n_sI (as := [(0, ((μ 127 a) + (m1 137 ((μ 127 a) / 4))) % 4)]) (rest := [(0, m1 135 ((μ 127 a) / 4)), (0, m1 135 (μ 123 (μ 127 a)))]) dX12_isFree_75 zm_X12_stepX zs_X12_295 rfl rfl (Nat.le_of_ble_eq_true rfl) (Nat.le_of_ble_eq_true rfl) (((h2.2 q5).2.2 q7).2.1 q8).2.2.2.2.2 (fun x12 m10 h11 => ?_)
        refine z_iadd dX12_isFree_78 h11.1 ?_
        refine z_icmp_ne (tgt := 133) dX12_isFree_79 (by decide) (fun q13 => ?_) (fun q14 => ?_)
        · refine z_iconst dX12_isFree_133 ⟨by decide, by decide⟩ ?_
          exact z_zreturn dX12_isFree_134 rfl rfl (by decide) ⟨_, rfl, (h11.2.1 q13)⟩
        · refine z_aload_n dX12_isFree_82 rfl ?_
          refine n_getp (ji := 30) dX12_isFree_83 zf_X12_78 k_113 rfl (by decide) rfl p_113_30 ?_
          refine z_iload dX12_isFree_86 rfl ?_
          refine n_iald dX12_isFree_88 k_136 (h11.2.2 q14).1 ?_
          refine z_aload_n dX12_isFree_89 rfl ?_
          refine n_getp (ji := 30) dX12_isFree_90 zf_X12_78 k_113 rfl (by decide) rfl p_113_30 ?_
          refine z_iload_n dX12_isFree_93 rfl ?_
          refine n_iald dX12_isFree_94 k_136 (h11.2.2 q14).2.1 ?_
          refine z_iload dX12_isFree_95 rfl ?_
          refine n_sI (as := [(0, ((μ 127 a) + (m1 137 ((μ 127 a) / 4))) % 4)]) (rest := [(0, m10 136 ((μ 127 a) / 4)), (0, m10 136 (μ 123 (μ 127 a)))]) dX12_isFree_97 zm_X12_stepY zs_X12_298 rfl rfl (Nat.le_of_ble_eq_true rfl) (Nat.le_of_ble_eq_true rfl) (h11.2.2 q14).2.2 (fun x17 m15 h16 => ?_)
          refine z_iadd dX12_isFree_100 h16.1 ?_
          refine z_icmp_ne (tgt := 133) dX12_isFree_101 (by decide) (fun q18 => ?_) (fun q19 => ?_)
          · refine z_iconst dX12_isFree_133 ⟨by decide, by decide⟩ ?_
            exact z_zreturn dX12_isFree_134 rfl rfl (by decide) ⟨_, rfl, (h16.2.1 q18)⟩
          · refine z_aload_n dX12_isFree_104 rfl ?_
            refine n_getp (ji := 15) dX12_isFree_105 zf_X12_42 k_113 rfl (by decide) rfl p_113_15 ?_
            refine z_iload_n dX12_isFree_108 rfl ?_
            refine n_iald dX12_isFree_109 k_124 (h16.2.2 q19).1 ?_
            refine z_aload_n dX12_isFree_110 rfl ?_
            refine n_getp (ji := 31) dX12_isFree_111 zf_X12_81 k_113 rfl (by decide) rfl p_113_31 ?_
            refine z_iload dX12_isFree_114 rfl ?_
            refine n_iald dX12_isFree_116 k_137 (h16.2.2 q19).2.1 ?_
            refine z_iadd dX12_isFree_117 (h16.2.2 q19).2.2.1 ?_
            refine z_iconst dX12_isFree_118 ⟨by decide, by decide⟩ ?_
            refine z_irem dX12_isFree_119 (h16.2.2 q19).2.2.2.1 (by decide) ?_
            refine z_iload dX12_isFree_120 rfl ?_
            refine z_iconst dX12_isFree_122 ⟨by decide, by decide⟩ ?_
            refine z_iadd dX12_isFree_123 (h16.2.2 q19).2.2.2.2.1 ?_
            refine z_iconst dX12_isFree_124 ⟨by decide, by decide⟩ ?_
            refine z_irem dX12_isFree_125 (h16.2.2 q19).2.2.2.2.2.1 (by decide) ?_
            refine z_icmp_ne (tgt := 133) dX12_isFree_126 (by decide) (fun q20 => ?_) (fun q21 => ?_)
            · refine z_iconst dX12_isFree_133 ⟨by decide, by decide⟩ ?_
              exact z_zreturn dX12_isFree_134 rfl rfl (by decide) ⟨_, rfl, ((h16.2.2 q19).2.2.2.2.2.2.1 q20)⟩
            · refine z_iconst dX12_isFree_129 ⟨by decide, by decide⟩ ?_
              refine z_goto (tgt := 134) dX12_isFree_130 (by decide) ?_
              exact z_zreturn dX12_isFree_134 rfl rfl (by decide) ⟨_, rfl, ((h16.2.2 q19).2.2.2.2.2.2.2 q21)⟩
      · refine z_iconst dX12_isFree_46 ⟨by decide, by decide⟩ ?_
        exact z_zreturn dX12_isFree_47 rfl rfl (by decide) ⟨_, rfl, (((h2.2 q5).2.2 q7).2.2 q9)⟩
set_option maxRecDepth 20000 in
theorem V_X12_tradedTo {a b : Int}  {μ : z_Mem} {d : Nat} {K : Int → z_Mem → Prop} (h : z_I (23 + b) ∧ (((0 : Int) ≤ 23 + b ∧ 23 + b < 143) ∧ (z_ci m_X12_firstOf [(2, 113), (0, a)] (z_st μ 114 (23 + b) 0) d (fun x3 m1 => z_ci m_X12_secondOf [(2, 113), (0, a)] m1 d (fun x6 m4 => z_ci m_X12_areJoined [(2, 113), (0, x3), (0, x6)] m4 d (fun x9 m7 => (¬ x9 = 0 → z_I (23 + a) ∧ (((0 : Int) ≤ 23 + a ∧ 23 + a < 143) ∧ (z_I (23 + a) ∧ (((0 : Int) ≤ 23 + a ∧ 23 + a < 143) ∧ (z_I (23 + b) ∧ (((0 : Int) ≤ 23 + b ∧ 23 + b < 143) ∧ (K (-1) (z_st (z_st (z_st m7 114 (23 + a) 1) 114 (23 + a) 0) 114 (23 + b) 1)))))))) ∧ (x9 = 0 → z_I (23 + a) ∧ (((0 : Int) ≤ 23 + a ∧ 23 + a < 143) ∧ (z_ci m_X12_overlaps [(2, 113)] (z_st m7 114 (23 + a) 1) d (fun x16 m14 => z_I (23 + a) ∧ (((0 : Int) ≤ 23 + a ∧ 23 + a < 143) ∧ (z_I (23 + b) ∧ (((0 : Int) ≤ 23 + b ∧ 23 + b < 143) ∧ (K x16 (z_st (z_st m14 114 (23 + a) 0) 114 (23 + b) 1))))))))))))))) : z_ci m_X12_tradedTo [(2, 113), (0, a), (0, b)] μ (d + 1) K := by
  show z_R m_X12_tradedTo 0 [some (2, 113), some (0, a), some (0, b), none, none] [] z_n μ (d + 1) _
  refine z_aload_n dX12_tradedTo_0 rfl ?_
  refine n_getp (ji := 0) dX12_tradedTo_1 zf_X12_9 k_113 rfl (by decide) rfl p_113_0 ?_
  refine z_bipush dX12_tradedTo_4 (by decide) ?_
  refine z_iload_n dX12_tradedTo_6 rfl ?_
  refine z_iadd dX12_tradedTo_7 h.1 ?_
  refine z_iconst dX12_tradedTo_8 ⟨by decide, by decide⟩ ?_
  refine n_iast dX12_tradedTo_9 k_114 h.2.1 ?_
  refine z_aload_n dX12_tradedTo_10 rfl ?_
  refine z_aload_n dX12_tradedTo_11 rfl ?_
  refine z_iload_n dX12_tradedTo_12 rfl ?_
  refine n_vI (as := [(0, a)]) (rest := [(2, 113)]) dX12_tradedTo_13 zm_X12_firstOf zs_X12_266 k_113 (by decide) rfl rfl (Nat.le_of_ble_eq_true rfl) (Nat.le_of_ble_eq_true rfl) h.2.2 (fun x3 m1 h2 => ?_)
  refine z_aload_n dX12_tradedTo_16 rfl ?_
  refine z_iload_n dX12_tradedTo_17 rfl ?_
  refine n_vI (as := [(0, a)]) (rest := [(0, x3), (2, 113)]) dX12_tradedTo_18 zm_X12_secondOf zs_X12_269 k_113 (by decide) rfl rfl (Nat.le_of_ble_eq_true rfl) (Nat.le_of_ble_eq_true rfl) h2 (fun x6 m4 h5 => ?_)
  refine n_vI (as := [(0, x3), (0, x6)]) (rest := []) dX12_tradedTo_21 zm_X12_areJoined zs_X12_272 k_113 (by decide) rfl rfl (Nat.le_of_ble_eq_true rfl) (Nat.le_of_ble_eq_true rfl) h5 (fun x9 m7 h8 => ?_)
  refine z_if_ne (tgt := 31) dX12_tradedTo_24 (by decide) (fun q10 => ?_) (fun q11 => ?_)
  · refine z_iconst dX12_tradedTo_31 ⟨by decide, by decide⟩ ?_
    refine n_istore_n (lo' := [some (2, 113), some (0, a), some (0, b), some (0, 0), none]) dX12_tradedTo_32 ⟨Nat.le_of_ble_eq_true rfl, Nat.le_of_ble_eq_true rfl⟩ rfl ?_
    refine z_aload_n dX12_tradedTo_33 rfl ?_
    refine n_getp (ji := 0) dX12_tradedTo_34 zf_X12_9 k_113 rfl (by decide) rfl p_113_0 ?_
    refine z_bipush dX12_tradedTo_37 (by decide) ?_
    refine z_iload_n dX12_tradedTo_39 rfl ?_
    refine z_iadd dX12_tradedTo_40 (h8.1 q10).1 ?_
    refine z_iconst dX12_tradedTo_41 ⟨by decide, by decide⟩ ?_
    refine n_iast dX12_tradedTo_42 k_114 (h8.1 q10).2.1 ?_
    refine z_iload_n dX12_tradedTo_43 rfl ?_
    refine z_if_eq (tgt := 54) dX12_tradedTo_44 (by decide) (fun _ => ?_) (fun q12 => absurd q12 (by decide))
    refine z_iconst dX12_tradedTo_54 ⟨by decide, by decide⟩ ?_
    refine n_istore (lo' := [some (2, 113), some (0, a), some (0, b), some (0, 0), some (0, (-1))]) dX12_tradedTo_55 ⟨Nat.le_of_ble_eq_true rfl, Nat.le_of_ble_eq_true rfl⟩ rfl ?_
    refine z_aload_n dX12_tradedTo_57 rfl ?_
    refine n_getp (ji := 0) dX12_tradedTo_58 zf_X12_9 k_113 rfl (by decide) rfl p_113_0 ?_
    refine z_bipush dX12_tradedTo_61 (by decide) ?_
    refine z_iload_n dX12_tradedTo_63 rfl ?_
    refine z_iadd dX12_tradedTo_64 (h8.1 q10).2.2.1 ?_
    refine z_iconst dX12_tradedTo_65 ⟨by decide, by decide⟩ ?_
    refine n_iast dX12_tradedTo_66 k_114 (h8.1 q10).2.2.2.1 ?_
    refine z_aload_n dX12_tradedTo_67 rfl ?_
    refine n_getp (ji := 0) dX12_tradedTo_68 zf_X12_9 k_113 rfl (by decide) rfl p_113_0 ?_
    refine z_bipush dX12_tradedTo_71 (by decide) ?_
    refine z_iload_n dX12_tradedTo_73 rfl ?_
    refine z_iadd dX12_tradedTo_74 (h8.1 q10).2.2.2.2.1 ?_
    refine z_iconst dX12_tradedTo_75 ⟨by decide, by decide⟩ ?_
    refine n_iast dX12_tradedTo_76 k_114 (h8.1 q10).2.2.2.2.2.1 ?_
    refine z_iload dX12_tradedTo_77 rfl ?_
    exact z_ireturn dX12_tradedTo_79 rfl rfl ⟨_, rfl, (h8.1 q10).2.2.2.2.2.2⟩
  · refine z_iconst dX12_tradedTo_27 ⟨by decide, by decide⟩ ?_
    refine z_goto (tgt := 32) dX12_tradedTo_28 (by decide) ?_
    refine n_istore_n (lo' := [some (2, 113), some (0, a), some (0, b), some (0, 1), none]) dX12_tradedTo_32 ⟨Nat.le_of_ble_eq_true rfl, Nat.le_of_ble_eq_true rfl⟩ rfl ?_
    refine z_aload_n dX12_tradedTo_33 rfl ?_
    refine n_getp (ji := 0) dX12_tradedTo_34 zf_X12_9 k_113 rfl (by decide) rfl p_113_0 ?_
    refine z_bipush dX12_tradedTo_37 (by decide) ?_
    refine z_iload_n dX12_tradedTo_39 rfl ?_
    refine z_iadd dX12_tradedTo_40 (h8.2 q11).1 ?_
    refine z_iconst dX12_tradedTo_41 ⟨by decide, by decide⟩ ?_
    refine n_iast dX12_tradedTo_42 k_114 (h8.2 q11).2.1 ?_
    refine z_iload_n dX12_tradedTo_43 rfl ?_
    refine z_if_eq (tgt := 54) dX12_tradedTo_44 (by decide) (fun q13 => absurd q13 (by decide)) (fun _ => ?_)
    refine z_aload_n dX12_tradedTo_47 rfl ?_
    refine n_vI (as := []) (rest := []) dX12_tradedTo_48 zm_X12_overlaps zs_X12_310 k_113 (by decide) rfl rfl (Nat.le_of_ble_eq_true rfl) (Nat.le_of_ble_eq_true rfl) (h8.2 q11).2.2 (fun x16 m14 h15 => ?_)
    refine z_goto (tgt := 55) dX12_tradedTo_51 (by decide) ?_
    refine n_istore (lo' := [some (2, 113), some (0, a), some (0, b), some (0, 1), some (0, x16)]) dX12_tradedTo_55 ⟨Nat.le_of_ble_eq_true rfl, Nat.le_of_ble_eq_true rfl⟩ rfl ?_
    refine z_aload_n dX12_tradedTo_57 rfl ?_
    refine n_getp (ji := 0) dX12_tradedTo_58 zf_X12_9 k_113 rfl (by decide) rfl p_113_0 ?_
    refine z_bipush dX12_tradedTo_61 (by decide) ?_
    refine z_iload_n dX12_tradedTo_63 rfl ?_
    refine z_iadd dX12_tradedTo_64 h15.1 ?_
    refine z_iconst dX12_tradedTo_65 ⟨by decide, by decide⟩ ?_
    refine n_iast dX12_tradedTo_66 k_114 h15.2.1 ?_
    refine z_aload_n dX12_tradedTo_67 rfl ?_
    refine n_getp (ji := 0) dX12_tradedTo_68 zf_X12_9 k_113 rfl (by decide) rfl p_113_0 ?_
    refine z_bipush dX12_tradedTo_71 (by decide) ?_
    refine z_iload_n dX12_tradedTo_73 rfl ?_
    refine z_iadd dX12_tradedTo_74 h15.2.2.1 ?_
    refine z_iconst dX12_tradedTo_75 ⟨by decide, by decide⟩ ?_
    refine n_iast dX12_tradedTo_76 k_114 h15.2.2.2.1 ?_
    refine z_iload dX12_tradedTo_77 rfl ?_
    exact z_ireturn dX12_tradedTo_79 rfl rfl ⟨_, rfl, h15.2.2.2.2⟩
set_option maxRecDepth 20000 in
theorem V_X12_laysBest  {μ : z_Mem} {d : Nat} {K : z_Mem → Prop} (h : z_rn m_X12_laysBest 20 [some (2, 113), some (0, 0), none, none] (z_st (z_st (z_st μ 113 32 (-2)) 113 33 (-2)) 113 34 (-2)) (d + 1) K) : z_cn m_X12_laysBest [(2, 113)] μ (d + 1) K := by
  show z_R m_X12_laysBest 0 [some (2, 113), none, none, none] [] z_n μ (d + 1) _
  refine z_aload_n dX12_laysBest_0 rfl ?_
  refine z_bipush dX12_laysBest_1 (by decide) ?_
  refine n_putI (ji := 32) dX12_laysBest_3 zf_X12_313 k_113 rfl (by decide) rfl ?_
  refine z_aload_n dX12_laysBest_6 rfl ?_
  refine z_bipush dX12_laysBest_7 (by decide) ?_
  refine n_putI (ji := 33) dX12_laysBest_9 zf_X12_316 k_113 rfl (by decide) rfl ?_
  refine z_aload_n dX12_laysBest_12 rfl ?_
  refine z_bipush dX12_laysBest_13 (by decide) ?_
  refine n_putI (ji := 34) dX12_laysBest_15 zf_X12_319 k_113 rfl (by decide) rfl ?_
  refine z_iconst dX12_laysBest_18 ⟨by decide, by decide⟩ ?_
  refine n_istore_n (lo' := [some (2, 113), some (0, 0), none, none]) dX12_laysBest_19 ⟨Nat.le_of_ble_eq_true rfl, Nat.le_of_ble_eq_true rfl⟩ rfl ?_
  refine z_drop [some (2, 113), some (0, 0), none, none] ⟨rfl, rfl, trivial⟩ ?_
  exact h
set_option maxRecDepth 20000 in
theorem V_X12_laysBest_20 {v1 : Int}  {μ : z_Mem} {d : Nat} {K : z_Mem → Prop} (h : (μ 113 22 ≤ v1 → K μ) ∧ (v1 < μ 113 22 → z_rn m_X12_laysBest 30 [some (2, 113), some (0, v1), some (0, 0), none] μ (d + 1) K)) : z_rn m_X12_laysBest 20 [some (2, 113), some (0, v1), none, none] μ (d + 1) K := by
  show z_R m_X12_laysBest 20 [some (2, 113), some (0, v1), none, none] [] z_n μ (d + 1) _
  refine z_iload_n dX12_laysBest_20 rfl ?_
  refine z_aload_n dX12_laysBest_21 rfl ?_
  refine n_getf (ji := 22) (t := 0) dX12_laysBest_22 zf_X12_245 k_113 rfl (by decide) rfl ?_
  refine z_icmp_ge (tgt := 113) dX12_laysBest_25 (by decide) (fun q1 => ?_) (fun q2 => ?_)
  · exact z_return dX12_laysBest_113 rfl rfl ⟨rfl, (h.1 q1)⟩
  · refine z_iconst dX12_laysBest_28 ⟨by decide, by decide⟩ ?_
    refine n_istore_n (lo' := [some (2, 113), some (0, v1), some (0, 0), none]) dX12_laysBest_29 ⟨Nat.le_of_ble_eq_true rfl, Nat.le_of_ble_eq_true rfl⟩ rfl ?_
    refine z_drop [some (2, 113), some (0, v1), some (0, 0), none] ⟨rfl, rfl, rfl, trivial⟩ ?_
    exact (h.2 q2)
set_option maxRecDepth 20000 in
theorem V_X12_laysBest_30 {v1 v2 : Int}  {μ : z_Mem} {d : Nat} {K : z_Mem → Prop} (h : (μ 113 22 ≤ v2 → z_I (v1 + 1) ∧ (z_rn m_X12_laysBest 20 [some (2, 113), some (0, v1 + 1), none, none] μ (d + 1) K)) ∧ (v2 < μ 113 22 → z_ci m_X12_isHinge [(2, 113), (0, v1)] μ d (fun x5 m3 => (¬ x5 = 0 → z_I (v2 + 1) ∧ (z_rn m_X12_laysBest 30 [some (2, 113), some (0, v1), some (0, v2 + 1), none] m3 (d + 1) K)) ∧ (x5 = 0 → z_ci m_X12_isHinge [(2, 113), (0, v2)] m3 d (fun x10 m8 => (¬ x10 = 0 → z_ci m_X12_tradedTo [(2, 113), (0, v1), (0, v2)] m8 d (fun x15 m13 => (x15 = (-1) → z_I (v2 + 1) ∧ (z_rn m_X12_laysBest 30 [some (2, 113), some (0, v1), some (0, v2 + 1), none] m13 (d + 1) K)) ∧ (¬ x15 = (-1) → (m13 113 34 = (-2) → z_I (v2 + 1) ∧ (z_rn m_X12_laysBest 30 [some (2, 113), some (0, v1), some (0, v2 + 1), none] (z_st (z_st (z_st m13 113 32 v1) 113 33 v2) 113 34 x15) (d + 1) K)) ∧ (¬ m13 113 34 = (-2) → (m13 113 34 ≤ x15 → z_I (v2 + 1) ∧ (z_rn m_X12_laysBest 30 [some (2, 113), some (0, v1), some (0, v2 + 1), none] m13 (d + 1) K)) ∧ (x15 < m13 113 34 → z_I (v2 + 1) ∧ (z_rn m_X12_laysBest 30 [some (2, 113), some (0, v1), some (0, v2 + 1), none] (z_st (z_st (z_st m13 113 32 v1) 113 33 v2) 113 34 x15) (d + 1) K)))))) ∧ (x10 = 0 → z_I (v2 + 1) ∧ (z_rn m_X12_laysBest 30 [some (2, 113), some (0, v1), some (0, v2 + 1), none] m8 (d + 1) K))))))) : z_rn m_X12_laysBest 30 [some (2, 113), some (0, v1), some (0, v2), none] μ (d + 1) K := by
  show z_R m_X12_laysBest 30 [some (2, 113), some (0, v1), some (0, v2), none] [] z_n μ (d + 1) _
  refine z_iload_n dX12_laysBest_30 rfl ?_
  refine z_aload_n dX12_laysBest_31 rfl ?_
  refine n_getf (ji := 22) (t := 0) dX12_laysBest_32 zf_X12_245 k_113 rfl (by decide) rfl ?_
  refine z_icmp_ge (tgt := 107) dX12_laysBest_35 (by decide) (fun q1 => ?_) (fun q2 => ?_)
  · refine n_iinc (lo' := [some (2, 113), some (0, v1 + 1), some (0, v2), none]) dX12_laysBest_107 rfl (by decide) (h.1 q1).1 rfl ?_
    refine z_goto (tgt := 20) dX12_laysBest_110 (by decide) ?_
    refine z_drop [some (2, 113), some (0, v1 + 1), none, none] ⟨rfl, rfl, trivial⟩ ?_
    exact (h.1 q1).2
  · refine z_aload_n dX12_laysBest_38 rfl ?_
    refine z_iload_n dX12_laysBest_39 rfl ?_
    refine n_vI (as := [(0, v1)]) (rest := []) dX12_laysBest_40 zm_X12_isHinge zs_X12_257 k_113 (by decide) rfl rfl (Nat.le_of_ble_eq_true rfl) (Nat.le_of_ble_eq_true rfl) (h.2 q2) (fun x5 m3 h4 => ?_)
    refine z_if_ne (tgt := 101) dX12_laysBest_43 (by decide) (fun q6 => ?_) (fun q7 => ?_)
    · refine n_iinc (lo' := [some (2, 113), some (0, v1), some (0, v2 + 1), none]) dX12_laysBest_101 rfl (by decide) (h4.1 q6).1 rfl ?_
      refine z_goto (tgt := 30) dX12_laysBest_104 (by decide) ?_
      refine z_drop [some (2, 113), some (0, v1), some (0, v2 + 1), none] ⟨rfl, rfl, rfl, trivial⟩ ?_
      exact (h4.1 q6).2
    · refine z_aload_n dX12_laysBest_46 rfl ?_
      refine z_iload_n dX12_laysBest_47 rfl ?_
      refine n_vI (as := [(0, v2)]) (rest := []) dX12_laysBest_48 zm_X12_isHinge zs_X12_257 k_113 (by decide) rfl rfl (Nat.le_of_ble_eq_true rfl) (Nat.le_of_ble_eq_true rfl) (h4.2 q7) (fun x10 m8 h9 => ?_)
      refine z_if_ne (tgt := 57) dX12_laysBest_51 (by decide) (fun q11 => ?_) (fun q12 => ?_)
      · refine z_aload_n dX12_laysBest_57 rfl ?_
        refine z_iload_n dX12_laysBest_58 rfl ?_
        refine z_iload_n dX12_laysBest_59 rfl ?_
        refine n_vI (as := [(0, v1), (0, v2)]) (rest := []) dX12_laysBest_60 zm_X12_tradedTo zs_X12_322 k_113 (by decide) rfl rfl (Nat.le_of_ble_eq_true rfl) (Nat.le_of_ble_eq_true rfl) (h9.1 q11) (fun x15 m13 h14 => ?_)
        refine n_istore_n (lo' := [some (2, 113), some (0, v1), some (0, v2), some (0, x15)]) dX12_laysBest_63 ⟨Nat.le_of_ble_eq_true rfl, Nat.le_of_ble_eq_true rfl⟩ rfl ?_
        refine z_iload_n dX12_laysBest_64 rfl ?_
        refine z_iconst dX12_laysBest_65 ⟨by decide, by decide⟩ ?_
        refine z_icmp_eq (tgt := 101) dX12_laysBest_66 (by decide) (fun q16 => ?_) (fun q17 => ?_)
        · refine n_iinc (lo' := [some (2, 113), some (0, v1), some (0, v2 + 1), some (0, x15)]) dX12_laysBest_101 rfl (by decide) (h14.1 q16).1 rfl ?_
          refine z_goto (tgt := 30) dX12_laysBest_104 (by decide) ?_
          refine z_drop [some (2, 113), some (0, v1), some (0, v2 + 1), none] ⟨rfl, rfl, rfl, trivial⟩ ?_
          exact (h14.1 q16).2
        · refine z_aload_n dX12_laysBest_69 rfl ?_
          refine n_getf (ji := 34) (t := 0) dX12_laysBest_70 zf_X12_319 k_113 rfl (by decide) rfl ?_
          refine z_bipush dX12_laysBest_73 (by decide) ?_
          refine z_icmp_eq (tgt := 86) dX12_laysBest_75 (by decide) (fun q18 => ?_) (fun q19 => ?_)
          · refine z_aload_n dX12_laysBest_86 rfl ?_
            refine z_iload_n dX12_laysBest_87 rfl ?_
            refine n_putI (ji := 32) dX12_laysBest_88 zf_X12_313 k_113 rfl (by decide) rfl ?_
            refine z_aload_n dX12_laysBest_91 rfl ?_
            refine z_iload_n dX12_laysBest_92 rfl ?_
            refine n_putI (ji := 33) dX12_laysBest_93 zf_X12_316 k_113 rfl (by decide) rfl ?_
            refine z_aload_n dX12_laysBest_96 rfl ?_
            refine z_iload_n dX12_laysBest_97 rfl ?_
            refine n_putI (ji := 34) dX12_laysBest_98 zf_X12_319 k_113 rfl (by decide) rfl ?_
            refine n_iinc (lo' := [some (2, 113), some (0, v1), some (0, v2 + 1), some (0, x15)]) dX12_laysBest_101 rfl (by decide) ((h14.2 q17).1 q18).1 rfl ?_
            refine z_goto (tgt := 30) dX12_laysBest_104 (by decide) ?_
            refine z_drop [some (2, 113), some (0, v1), some (0, v2 + 1), none] ⟨rfl, rfl, rfl, trivial⟩ ?_
            exact ((h14.2 q17).1 q18).2
          · refine z_iload_n dX12_laysBest_78 rfl ?_
            refine z_aload_n dX12_laysBest_79 rfl ?_
            refine n_getf (ji := 34) (t := 0) dX12_laysBest_80 zf_X12_319 k_113 rfl (by decide) rfl ?_
            refine z_icmp_ge (tgt := 101) dX12_laysBest_83 (by decide) (fun q20 => ?_) (fun q21 => ?_)
            · refine n_iinc (lo' := [some (2, 113), some (0, v1), some (0, v2 + 1), some (0, x15)]) dX12_laysBest_101 rfl (by decide) (((h14.2 q17).2 q19).1 q20).1 rfl ?_
              refine z_goto (tgt := 30) dX12_laysBest_104 (by decide) ?_
              refine z_drop [some (2, 113), some (0, v1), some (0, v2 + 1), none] ⟨rfl, rfl, rfl, trivial⟩ ?_
              exact (((h14.2 q17).2 q19).1 q20).2
            · refine z_aload_n dX12_laysBest_86 rfl ?_
              refine z_iload_n dX12_laysBest_87 rfl ?_
              refine n_putI (ji := 32) dX12_laysBest_88 zf_X12_313 k_113 rfl (by decide) rfl ?_
              refine z_aload_n dX12_laysBest_91 rfl ?_
              refine z_iload_n dX12_laysBest_92 rfl ?_
              refine n_putI (ji := 33) dX12_laysBest_93 zf_X12_316 k_113 rfl (by decide) rfl ?_
              refine z_aload_n dX12_laysBest_96 rfl ?_
              refine z_iload_n dX12_laysBest_97 rfl ?_
              refine n_putI (ji := 34) dX12_laysBest_98 zf_X12_319 k_113 rfl (by decide) rfl ?_
              refine n_iinc (lo' := [some (2, 113), some (0, v1), some (0, v2 + 1), some (0, x15)]) dX12_laysBest_101 rfl (by decide) (((h14.2 q17).2 q19).2 q21).1 rfl ?_
              refine z_goto (tgt := 30) dX12_laysBest_104 (by decide) ?_
              refine z_drop [some (2, 113), some (0, v1), some (0, v2 + 1), none] ⟨rfl, rfl, rfl, trivial⟩ ?_
              exact (((h14.2 q17).2 q19).2 q21).2
      · refine z_goto (tgt := 101) dX12_laysBest_54 (by decide) ?_
        refine n_iinc (lo' := [some (2, 113), some (0, v1), some (0, v2 + 1), none]) dX12_laysBest_101 rfl (by decide) (h9.2 q12).1 rfl ?_
        refine z_goto (tgt := 30) dX12_laysBest_104 (by decide) ?_
        refine z_drop [some (2, 113), some (0, v1), some (0, v2 + 1), none] ⟨rfl, rfl, rfl, trivial⟩ ?_
        exact (h9.2 q12).2
set_option maxRecDepth 20000 in
theorem V_X12_trades {a b : Int}  {μ : z_Mem} {d : Nat} {K : z_Mem → Prop} (h : z_I (23 + a) ∧ (((0 : Int) ≤ 23 + a ∧ 23 + a < 143) ∧ (z_I (23 + b) ∧ (((0 : Int) ≤ 23 + b ∧ 23 + b < 143) ∧ (K (z_st (z_st μ 114 (23 + a) 1) 114 (23 + b) 0)))))) : z_cn m_X12_trades [(2, 113), (0, a), (0, b)] μ d K := by
  show z_R m_X12_trades 0 [some (2, 113), some (0, a), some (0, b)] [] z_n μ d _
  refine z_aload_n dX12_trades_0 rfl ?_
  refine n_getp (ji := 0) dX12_trades_1 zf_X12_9 k_113 rfl (by decide) rfl p_113_0 ?_
  refine z_bipush dX12_trades_4 (by decide) ?_
  refine z_iload_n dX12_trades_6 rfl ?_
  refine z_iadd dX12_trades_7 h.1 ?_
  refine z_iconst dX12_trades_8 ⟨by decide, by decide⟩ ?_
  refine n_iast dX12_trades_9 k_114 h.2.1 ?_
  refine z_aload_n dX12_trades_10 rfl ?_
  refine n_getp (ji := 0) dX12_trades_11 zf_X12_9 k_113 rfl (by decide) rfl p_113_0 ?_
  refine z_bipush dX12_trades_14 (by decide) ?_
  refine z_iload_n dX12_trades_16 rfl ?_
  refine z_iadd dX12_trades_17 h.2.2.1 ?_
  refine z_iconst dX12_trades_18 ⟨by decide, by decide⟩ ?_
  refine n_iast dX12_trades_19 k_114 h.2.2.2.1 ?_
  exact z_return dX12_trades_20 rfl rfl ⟨rfl, h.2.2.2.2⟩
set_option maxRecDepth 20000 in
theorem V_X12_trade {a b : Int}  {μ : z_Mem} {d : Nat} {K : Int → z_Mem → Prop} (h : z_ci m_X12_isEdge [(2, 113), (0, a)] μ d (fun x3 m1 => (x3 = 0 → K (-1) m1) ∧ (¬ x3 = 0 → z_ci m_X12_isEdge [(2, 113), (0, b)] m1 d (fun x8 m6 => (¬ x8 = 0 → z_ci m_X12_isHinge [(2, 113), (0, a)] m6 d (fun x13 m11 => (¬ x13 = 0 → K (-2) m11) ∧ (x13 = 0 → z_ci m_X12_isHinge [(2, 113), (0, b)] m11 d (fun x18 m16 => (¬ x18 = 0 → z_ci m_X12_isWhole [(2, 113)] m16 d (fun x23 m21 => (x23 = 0 → K (-3) m21) ∧ (¬ x23 = 0 → z_ci m_X12_tradedTo [(2, 113), (0, a), (0, b)] m21 d (fun x29 m27 => (¬ x29 = (-1) → z_cn m_X12_keepsPast [(2, 113)] m27 d (fun m32 => z_cn m_X12_trades [(2, 113), (0, a), (0, b)] m32 d (fun m34 => K x29 m34))) ∧ (x29 = (-1) → K (-3) m27))))) ∧ (x18 = 0 → K (-2) m16))))) ∧ (x8 = 0 → K (-1) m6))))) : z_ci m_X12_trade [(2, 113), (0, a), (0, b)] μ (d + 1) K := by
  show z_R m_X12_trade 0 [some (2, 113), some (0, a), some (0, b), none] [] z_n μ (d + 1) _
  refine z_aload_n dX12_trade_0 rfl ?_
  refine z_iload_n dX12_trade_1 rfl ?_
  refine n_vI (as := [(0, a)]) (rest := []) dX12_trade_2 zm_X12_isEdge zs_X12_263 k_113 (by decide) rfl rfl (Nat.le_of_ble_eq_true rfl) (Nat.le_of_ble_eq_true rfl) h (fun x3 m1 h2 => ?_)
  refine z_if_eq (tgt := 16) dX12_trade_5 (by decide) (fun q4 => ?_) (fun q5 => ?_)
  · refine z_iconst dX12_trade_16 ⟨by decide, by decide⟩ ?_
    exact z_ireturn dX12_trade_17 rfl rfl ⟨_, rfl, (h2.1 q4)⟩
  · refine z_aload_n dX12_trade_8 rfl ?_
    refine z_iload_n dX12_trade_9 rfl ?_
    refine n_vI (as := [(0, b)]) (rest := []) dX12_trade_10 zm_X12_isEdge zs_X12_263 k_113 (by decide) rfl rfl (Nat.le_of_ble_eq_true rfl) (Nat.le_of_ble_eq_true rfl) (h2.2 q5) (fun x8 m6 h7 => ?_)
    refine z_if_ne (tgt := 18) dX12_trade_13 (by decide) (fun q9 => ?_) (fun q10 => ?_)
    · refine z_aload_n dX12_trade_18 rfl ?_
      refine z_iload_n dX12_trade_19 rfl ?_
      refine n_vI (as := [(0, a)]) (rest := []) dX12_trade_20 zm_X12_isHinge zs_X12_257 k_113 (by decide) rfl rfl (Nat.le_of_ble_eq_true rfl) (Nat.le_of_ble_eq_true rfl) (h7.1 q9) (fun x13 m11 h12 => ?_)
      refine z_if_ne (tgt := 34) dX12_trade_23 (by decide) (fun q14 => ?_) (fun q15 => ?_)
      · refine z_bipush dX12_trade_34 (by decide) ?_
        exact z_ireturn dX12_trade_36 rfl rfl ⟨_, rfl, (h12.1 q14)⟩
      · refine z_aload_n dX12_trade_26 rfl ?_
        refine z_iload_n dX12_trade_27 rfl ?_
        refine n_vI (as := [(0, b)]) (rest := []) dX12_trade_28 zm_X12_isHinge zs_X12_257 k_113 (by decide) rfl rfl (Nat.le_of_ble_eq_true rfl) (Nat.le_of_ble_eq_true rfl) (h12.2 q15) (fun x18 m16 h17 => ?_)
        refine z_if_ne (tgt := 37) dX12_trade_31 (by decide) (fun q19 => ?_) (fun q20 => ?_)
        · refine z_aload_n dX12_trade_37 rfl ?_
          refine n_vI (as := []) (rest := []) dX12_trade_38 zm_X12_isWhole zs_X12_325 k_113 (by decide) rfl rfl (Nat.le_of_ble_eq_true rfl) (Nat.le_of_ble_eq_true rfl) (h17.1 q19) (fun x23 m21 h22 => ?_)
          refine z_if_eq (tgt := 53) dX12_trade_41 (by decide) (fun q24 => ?_) (fun q25 => ?_)
          · refine z_iconst dX12_trade_53 ⟨by decide, by decide⟩ ?_
            refine n_istore_n (lo' := [some (2, 113), some (0, a), some (0, b), some (0, (-1))]) dX12_trade_54 ⟨Nat.le_of_ble_eq_true rfl, Nat.le_of_ble_eq_true rfl⟩ rfl ?_
            refine z_iload_n dX12_trade_55 rfl ?_
            refine z_iconst dX12_trade_56 ⟨by decide, by decide⟩ ?_
            refine z_icmp_ne (tgt := 63) dX12_trade_57 (by decide) (fun q26 => absurd q26 (by decide)) (fun _ => ?_)
            refine z_bipush dX12_trade_60 (by decide) ?_
            exact z_ireturn dX12_trade_62 rfl rfl ⟨_, rfl, (h22.1 q24)⟩
          · refine z_aload_n dX12_trade_44 rfl ?_
            refine z_iload_n dX12_trade_45 rfl ?_
            refine z_iload_n dX12_trade_46 rfl ?_
            refine n_vI (as := [(0, a), (0, b)]) (rest := []) dX12_trade_47 zm_X12_tradedTo zs_X12_322 k_113 (by decide) rfl rfl (Nat.le_of_ble_eq_true rfl) (Nat.le_of_ble_eq_true rfl) (h22.2 q25) (fun x29 m27 h28 => ?_)
            refine z_goto (tgt := 54) dX12_trade_50 (by decide) ?_
            refine n_istore_n (lo' := [some (2, 113), some (0, a), some (0, b), some (0, x29)]) dX12_trade_54 ⟨Nat.le_of_ble_eq_true rfl, Nat.le_of_ble_eq_true rfl⟩ rfl ?_
            refine z_iload_n dX12_trade_55 rfl ?_
            refine z_iconst dX12_trade_56 ⟨by decide, by decide⟩ ?_
            refine z_icmp_ne (tgt := 63) dX12_trade_57 (by decide) (fun q30 => ?_) (fun q31 => ?_)
            · refine z_aload_n dX12_trade_63 rfl ?_
              refine n_vN (as := []) (rest := []) dX12_trade_64 zm_X12_keepsPast zs_X12_275 k_113 (by decide) rfl rfl (Nat.le_of_ble_eq_true rfl) (Nat.le_of_ble_eq_true rfl) (h28.1 q30) (fun m32 h33 => ?_)
              refine z_aload_n dX12_trade_67 rfl ?_
              refine z_iload_n dX12_trade_68 rfl ?_
              refine z_iload_n dX12_trade_69 rfl ?_
              refine n_vN (as := [(0, a), (0, b)]) (rest := []) dX12_trade_70 zm_X12_trades zs_X12_328 k_113 (by decide) rfl rfl (Nat.le_of_ble_eq_true rfl) (Nat.le_of_ble_eq_true rfl) h33 (fun m34 h35 => ?_)
              refine z_iload_n dX12_trade_73 rfl ?_
              exact z_ireturn dX12_trade_74 rfl rfl ⟨_, rfl, h35⟩
            · refine z_bipush dX12_trade_60 (by decide) ?_
              exact z_ireturn dX12_trade_62 rfl rfl ⟨_, rfl, (h28.2 q31)⟩
        · refine z_bipush dX12_trade_34 (by decide) ?_
          exact z_ireturn dX12_trade_36 rfl rfl ⟨_, rfl, (h17.2 q20)⟩
    · refine z_iconst dX12_trade_16 ⟨by decide, by decide⟩ ?_
      exact z_ireturn dX12_trade_17 rfl rfl ⟨_, rfl, (h7.2 q10)⟩
set_option maxRecDepth 20000 in
theorem V_X12_mend  {μ : z_Mem} {d : Nat} {K : Int → z_Mem → Prop} (h : z_ci m_X12_isWhole [(2, 113)] μ d (fun x3 m1 => (¬ x3 = 0 → z_cn m_X12_keepsPast [(2, 113)] m1 d (fun m6 => z_ci m_X12_overlaps [(2, 113)] m6 d (fun x10 m8 => z_cn m_X12_laysBest [(2, 113)] m8 d (fun m11 => z_ri m_X12_mend 24 [some (2, 113), some (0, 0), some (0, x10)] m11 (d + 1) K)))) ∧ (x3 = 0 → K (-1) m1))) : z_ci m_X12_mend [(2, 113)] μ (d + 1) K := by
  show z_R m_X12_mend 0 [some (2, 113), none, none] [] z_n μ (d + 1) _
  refine z_aload_n dX12_mend_0 rfl ?_
  refine n_vI (as := []) (rest := []) dX12_mend_1 zm_X12_isWhole zs_X12_325 k_113 (by decide) rfl rfl (Nat.le_of_ble_eq_true rfl) (Nat.le_of_ble_eq_true rfl) h (fun x3 m1 h2 => ?_)
  refine z_if_ne (tgt := 9) dX12_mend_4 (by decide) (fun q4 => ?_) (fun q5 => ?_)
  · refine z_aload_n dX12_mend_9 rfl ?_
    refine n_vN (as := []) (rest := []) dX12_mend_10 zm_X12_keepsPast zs_X12_275 k_113 (by decide) rfl rfl (Nat.le_of_ble_eq_true rfl) (Nat.le_of_ble_eq_true rfl) (h2.1 q4) (fun m6 h7 => ?_)
    refine z_iconst dX12_mend_13 ⟨by decide, by decide⟩ ?_
    refine n_istore_n (lo' := [some (2, 113), some (0, 0), none]) dX12_mend_14 ⟨Nat.le_of_ble_eq_true rfl, Nat.le_of_ble_eq_true rfl⟩ rfl ?_
    refine z_aload_n dX12_mend_15 rfl ?_
    refine n_vI (as := []) (rest := []) dX12_mend_16 zm_X12_overlaps zs_X12_310 k_113 (by decide) rfl rfl (Nat.le_of_ble_eq_true rfl) (Nat.le_of_ble_eq_true rfl) h7 (fun x10 m8 h9 => ?_)
    refine n_istore_n (lo' := [some (2, 113), some (0, 0), some (0, x10)]) dX12_mend_19 ⟨Nat.le_of_ble_eq_true rfl, Nat.le_of_ble_eq_true rfl⟩ rfl ?_
    refine z_aload_n dX12_mend_20 rfl ?_
    refine n_vN (as := []) (rest := []) dX12_mend_21 zm_X12_laysBest zs_X12_331 k_113 (by decide) rfl rfl (Nat.le_of_ble_eq_true rfl) (Nat.le_of_ble_eq_true rfl) h9 (fun m11 h12 => ?_)
    refine z_drop [some (2, 113), some (0, 0), some (0, x10)] ⟨rfl, rfl, rfl, trivial⟩ ?_
    exact h12
  · refine z_iconst dX12_mend_7 ⟨by decide, by decide⟩ ?_
    exact z_ireturn dX12_mend_8 rfl rfl ⟨_, rfl, (h2.2 q5)⟩
set_option maxRecDepth 20000 in
theorem V_X12_mend_24 {v1 v2 : Int}  {μ : z_Mem} {d : Nat} {K : Int → z_Mem → Prop} (h : (μ 113 34 = (-2) → K v1 μ) ∧ (¬ μ 113 34 = (-2) → (v2 ≤ μ 113 34 → K v1 μ) ∧ (μ 113 34 < v2 → z_cn m_X12_trades [(2, 113), (0, μ 113 32), (0, μ 113 33)] μ d (fun m5 => z_I (v1 + 1) ∧ (z_cn m_X12_laysBest [(2, 113)] m5 d (fun m7 => z_ri m_X12_mend 24 [some (2, 113), some (0, v1 + 1), some (0, m5 113 34)] m7 (d + 1) K)))))) : z_ri m_X12_mend 24 [some (2, 113), some (0, v1), some (0, v2)] μ (d + 1) K := by
  show z_R m_X12_mend 24 [some (2, 113), some (0, v1), some (0, v2)] [] z_n μ (d + 1) _
  refine z_aload_n dX12_mend_24 rfl ?_
  refine n_getf (ji := 34) (t := 0) dX12_mend_25 zf_X12_319 k_113 rfl (by decide) rfl ?_
  refine z_bipush dX12_mend_28 (by decide) ?_
  refine z_icmp_eq (tgt := 68) dX12_mend_30 (by decide) (fun q1 => ?_) (fun q2 => ?_)
  · refine z_iload_n dX12_mend_68 rfl ?_
    exact z_ireturn dX12_mend_69 rfl rfl ⟨_, rfl, (h.1 q1)⟩
  · refine z_aload_n dX12_mend_33 rfl ?_
    refine n_getf (ji := 34) (t := 0) dX12_mend_34 zf_X12_319 k_113 rfl (by decide) rfl ?_
    refine z_iload_n dX12_mend_37 rfl ?_
    refine z_icmp_ge (tgt := 68) dX12_mend_38 (by decide) (fun q3 => ?_) (fun q4 => ?_)
    · refine z_iload_n dX12_mend_68 rfl ?_
      exact z_ireturn dX12_mend_69 rfl rfl ⟨_, rfl, ((h.2 q2).1 q3)⟩
    · refine z_aload_n dX12_mend_41 rfl ?_
      refine z_aload_n dX12_mend_42 rfl ?_
      refine n_getf (ji := 32) (t := 0) dX12_mend_43 zf_X12_313 k_113 rfl (by decide) rfl ?_
      refine z_aload_n dX12_mend_46 rfl ?_
      refine n_getf (ji := 33) (t := 0) dX12_mend_47 zf_X12_316 k_113 rfl (by decide) rfl ?_
      refine n_vN (as := [(0, μ 113 32), (0, μ 113 33)]) (rest := []) dX12_mend_50 zm_X12_trades zs_X12_328 k_113 (by decide) rfl rfl (Nat.le_of_ble_eq_true rfl) (Nat.le_of_ble_eq_true rfl) ((h.2 q2).2 q4) (fun m5 h6 => ?_)
      refine z_aload_n dX12_mend_53 rfl ?_
      refine n_getf (ji := 34) (t := 0) dX12_mend_54 zf_X12_319 k_113 rfl (by decide) rfl ?_
      refine n_istore_n (lo' := [some (2, 113), some (0, v1), some (0, m5 113 34)]) dX12_mend_57 ⟨Nat.le_of_ble_eq_true rfl, Nat.le_of_ble_eq_true rfl⟩ rfl ?_
      refine n_iinc (lo' := [some (2, 113), some (0, v1 + 1), some (0, m5 113 34)]) dX12_mend_58 rfl (by decide) h6.1 rfl ?_
      refine z_aload_n dX12_mend_61 rfl ?_
      refine n_vN (as := []) (rest := []) dX12_mend_62 zm_X12_laysBest zs_X12_331 k_113 (by decide) rfl rfl (Nat.le_of_ble_eq_true rfl) (Nat.le_of_ble_eq_true rfl) h6.2 (fun m7 h8 => ?_)
      refine z_goto (tgt := 24) dX12_mend_65 (by decide) ?_
      refine z_drop [some (2, 113), some (0, v1 + 1), some (0, m5 113 34)] ⟨rfl, rfl, rfl, trivial⟩ ?_
      exact h8
set_option maxRecDepth 20000 in
theorem V_X12_best {a : Int}  {μ : z_Mem} {d : Nat} {K : Int → z_Mem → Prop} (h : z_ci m_X12_isWhole [(2, 113)] μ d (fun x3 m1 => (x3 = 0 → K (-1) m1) ∧ (¬ x3 = 0 → z_ci m_X12_in [(1, a), (1, 0), (1, 2)] m1 d (fun x8 m6 => (¬ x8 = 0 → z_cn m_X12_laysBest [(2, 113)] m6 d (fun m11 => (¬ a = 0 → (¬ a = 1 → K (m11 113 34) m11) ∧ (a = 1 → K (m11 113 33) m11)) ∧ (a = 0 → K (m11 113 32) m11))) ∧ (x8 = 0 → K (-1) m6))))) : z_ci m_X12_best [(2, 113), (0, a)] μ (d + 1) K := by
  show z_R m_X12_best 0 [some (2, 113), some (0, a)] [] z_n μ (d + 1) _
  refine z_aload_n dX12_best_0 rfl ?_
  refine n_vI (as := []) (rest := []) dX12_best_1 zm_X12_isWhole zs_X12_325 k_113 (by decide) rfl rfl (Nat.le_of_ble_eq_true rfl) (Nat.le_of_ble_eq_true rfl) h (fun x3 m1 h2 => ?_)
  refine z_if_eq (tgt := 19) dX12_best_4 (by decide) (fun q4 => ?_) (fun q5 => ?_)
  · refine z_iconst dX12_best_19 ⟨by decide, by decide⟩ ?_
    exact z_ireturn dX12_best_20 rfl rfl ⟨_, rfl, (h2.1 q4)⟩
  · refine z_iload_n dX12_best_7 rfl ?_
    refine z_i2l_ dX12_best_8 ?_
    refine z_lconst0 dX12_best_9 ?_
    refine z_ldc2 (n := 2) dX12_best_10 zc_1610 ⟨by decide, by decide⟩ ?_
    refine n_sI (as := [(1, a), (1, 0), (1, 2)]) (rest := []) dX12_best_13 zm_X12_in zs_X12_143 rfl rfl (Nat.le_of_ble_eq_true rfl) (Nat.le_of_ble_eq_true rfl) (h2.2 q5) (fun x8 m6 h7 => ?_)
    refine z_if_ne (tgt := 21) dX12_best_16 (by decide) (fun q9 => ?_) (fun q10 => ?_)
    · refine z_aload_n dX12_best_21 rfl ?_
      refine n_vN (as := []) (rest := []) dX12_best_22 zm_X12_laysBest zs_X12_331 k_113 (by decide) rfl rfl (Nat.le_of_ble_eq_true rfl) (Nat.le_of_ble_eq_true rfl) (h7.1 q9) (fun m11 h12 => ?_)
      refine z_iload_n dX12_best_25 rfl ?_
      refine z_if_ne (tgt := 36) dX12_best_26 (by decide) (fun q13 => ?_) (fun q14 => ?_)
      · refine z_iload_n dX12_best_36 rfl ?_
        refine z_iconst dX12_best_37 ⟨by decide, by decide⟩ ?_
        refine z_icmp_ne (tgt := 48) dX12_best_38 (by decide) (fun q15 => ?_) (fun q16 => ?_)
        · refine z_aload_n dX12_best_48 rfl ?_
          refine n_getf (ji := 34) (t := 0) dX12_best_49 zf_X12_319 k_113 rfl (by decide) rfl ?_
          exact z_ireturn dX12_best_52 rfl rfl ⟨_, rfl, ((h12.1 q13).1 q15)⟩
        · refine z_aload_n dX12_best_41 rfl ?_
          refine n_getf (ji := 33) (t := 0) dX12_best_42 zf_X12_316 k_113 rfl (by decide) rfl ?_
          refine z_goto (tgt := 52) dX12_best_45 (by decide) ?_
          exact z_ireturn dX12_best_52 rfl rfl ⟨_, rfl, ((h12.1 q13).2 q16)⟩
      · refine z_aload_n dX12_best_29 rfl ?_
        refine n_getf (ji := 32) (t := 0) dX12_best_30 zf_X12_313 k_113 rfl (by decide) rfl ?_
        refine z_goto (tgt := 52) dX12_best_33 (by decide) ?_
        exact z_ireturn dX12_best_52 rfl rfl ⟨_, rfl, (h12.2 q14)⟩
    · refine z_iconst dX12_best_19 ⟨by decide, by decide⟩ ?_
      exact z_ireturn dX12_best_20 rfl rfl ⟨_, rfl, (h7.2 q10)⟩
set_option maxRecDepth 20000 in
theorem V_X12_leastEdge  {μ : z_Mem} {d : Nat} {K : Int → z_Mem → Prop} (h : z_ri m_X12_leastEdge 2 [some (2, 113), some (0, 0)] μ (d + 1) K) : z_ci m_X12_leastEdge [(2, 113)] μ (d + 1) K := by
  show z_R m_X12_leastEdge 0 [some (2, 113), none] [] z_n μ (d + 1) _
  refine z_iconst dX12_leastEdge_0 ⟨by decide, by decide⟩ ?_
  refine n_istore_n (lo' := [some (2, 113), some (0, 0)]) dX12_leastEdge_1 ⟨Nat.le_of_ble_eq_true rfl, Nat.le_of_ble_eq_true rfl⟩ rfl ?_
  refine z_drop [some (2, 113), some (0, 0)] ⟨rfl, rfl, trivial⟩ ?_
  exact h
set_option maxRecDepth 20000 in
theorem V_X12_leastEdge_2 {v1 : Int}  {μ : z_Mem} {d : Nat} {K : Int → z_Mem → Prop} (h : (μ 113 22 ≤ v1 → K (-1) μ) ∧ (v1 < μ 113 22 → ((0 : Int) ≤ v1 ∧ v1 < 60) ∧ ((¬ μ 138 v1 = 0 → z_I (v1 + 1) ∧ (z_ri m_X12_leastEdge 2 [some (2, 113), some (0, v1 + 1)] μ (d + 1) K)) ∧ (μ 138 v1 = 0 → z_ci m_X12_firstOf [(2, 113), (0, v1)] μ d (fun x7 m5 => ((0 : Int) ≤ x7 ∧ x7 < 30) ∧ (z_ci m_X12_secondOf [(2, 113), (0, v1)] m5 d (fun x10 m8 => ((0 : Int) ≤ x10 ∧ x10 < 30) ∧ ((m5 139 x7 = m8 139 x10 → z_I (v1 + 1) ∧ (z_ri m_X12_leastEdge 2 [some (2, 113), some (0, v1 + 1)] m8 (d + 1) K)) ∧ (¬ m5 139 x7 = m8 139 x10 → K v1 m8))))))))) : z_ri m_X12_leastEdge 2 [some (2, 113), some (0, v1)] μ (d + 1) K := by
  show z_R m_X12_leastEdge 2 [some (2, 113), some (0, v1)] [] z_n μ (d + 1) _
  refine z_iload_n dX12_leastEdge_2 rfl ?_
  refine z_aload_n dX12_leastEdge_3 rfl ?_
  refine n_getf (ji := 22) (t := 0) dX12_leastEdge_4 zf_X12_245 k_113 rfl (by decide) rfl ?_
  refine z_icmp_ge (tgt := 50) dX12_leastEdge_7 (by decide) (fun q1 => ?_) (fun q2 => ?_)
  · refine z_iconst dX12_leastEdge_50 ⟨by decide, by decide⟩ ?_
    exact z_ireturn dX12_leastEdge_51 rfl rfl ⟨_, rfl, (h.1 q1)⟩
  · refine z_aload_n dX12_leastEdge_10 rfl ?_
    refine n_getp (ji := 35) dX12_leastEdge_11 zf_X12_84 k_113 rfl (by decide) rfl p_113_35 ?_
    refine z_iload_n dX12_leastEdge_14 rfl ?_
    refine n_iald dX12_leastEdge_15 k_138 (h.2 q2).1 ?_
    refine z_if_ne (tgt := 44) dX12_leastEdge_16 (by decide) (fun q3 => ?_) (fun q4 => ?_)
    · refine n_iinc (lo' := [some (2, 113), some (0, v1 + 1)]) dX12_leastEdge_44 rfl (by decide) ((h.2 q2).2.1 q3).1 rfl ?_
      refine z_goto (tgt := 2) dX12_leastEdge_47 (by decide) ?_
      refine z_drop [some (2, 113), some (0, v1 + 1)] ⟨rfl, rfl, trivial⟩ ?_
      exact ((h.2 q2).2.1 q3).2
    · refine z_aload_n dX12_leastEdge_19 rfl ?_
      refine n_getp (ji := 36) dX12_leastEdge_20 zf_X12_87 k_113 rfl (by decide) rfl p_113_36 ?_
      refine z_aload_n dX12_leastEdge_23 rfl ?_
      refine z_iload_n dX12_leastEdge_24 rfl ?_
      refine n_vI (as := [(0, v1)]) (rest := [(2, 139)]) dX12_leastEdge_25 zm_X12_firstOf zs_X12_266 k_113 (by decide) rfl rfl (Nat.le_of_ble_eq_true rfl) (Nat.le_of_ble_eq_true rfl) ((h.2 q2).2.2 q4) (fun x7 m5 h6 => ?_)
      refine n_zald dX12_leastEdge_28 k_139 h6.1 ?_
      refine z_aload_n dX12_leastEdge_29 rfl ?_
      refine n_getp (ji := 36) dX12_leastEdge_30 zf_X12_87 k_113 rfl (by decide) rfl p_113_36 ?_
      refine z_aload_n dX12_leastEdge_33 rfl ?_
      refine z_iload_n dX12_leastEdge_34 rfl ?_
      refine n_vI (as := [(0, v1)]) (rest := [(2, 139), (0, m5 139 x7)]) dX12_leastEdge_35 zm_X12_secondOf zs_X12_269 k_113 (by decide) rfl rfl (Nat.le_of_ble_eq_true rfl) (Nat.le_of_ble_eq_true rfl) h6.2 (fun x10 m8 h9 => ?_)
      refine n_zald dX12_leastEdge_38 k_139 h9.1 ?_
      refine z_icmp_eq (tgt := 44) dX12_leastEdge_39 (by decide) (fun q11 => ?_) (fun q12 => ?_)
      · refine n_iinc (lo' := [some (2, 113), some (0, v1 + 1)]) dX12_leastEdge_44 rfl (by decide) (h9.2.1 q11).1 rfl ?_
        refine z_goto (tgt := 2) dX12_leastEdge_47 (by decide) ?_
        refine z_drop [some (2, 113), some (0, v1 + 1)] ⟨rfl, rfl, trivial⟩ ?_
        exact (h9.2.1 q11).2
      · refine z_iload_n dX12_leastEdge_42 rfl ?_
        exact z_ireturn dX12_leastEdge_43 rfl rfl ⟨_, rfl, (h9.2.2 q12)⟩
set_option maxRecDepth 20000 in
theorem V_X12_isTaken {a b : Int}  {μ : z_Mem} {d : Nat} {K : Int → z_Mem → Prop} (h : z_ri m_X12_isTaken 2 [some (2, 113), some (0, a), some (0, b), some (0, 0)] μ d K) : z_ci m_X12_isTaken [(2, 113), (0, a), (0, b)] μ d K := by
  show z_R m_X12_isTaken 0 [some (2, 113), some (0, a), some (0, b), none] [] z_n μ d _
  refine z_iconst dX12_isTaken_0 ⟨by decide, by decide⟩ ?_
  refine n_istore_n (lo' := [some (2, 113), some (0, a), some (0, b), some (0, 0)]) dX12_isTaken_1 ⟨Nat.le_of_ble_eq_true rfl, Nat.le_of_ble_eq_true rfl⟩ rfl ?_
  refine z_drop [some (2, 113), some (0, a), some (0, b), some (0, 0)] ⟨rfl, rfl, rfl, rfl, trivial⟩ ?_
  exact h
set_option maxRecDepth 20000 in
theorem V_X12_isTaken_2 {v1 v2 v3 : Int}  {μ : z_Mem} {d : Nat} {K : Int → z_Mem → Prop} (h : (μ 113 21 ≤ v3 → K 0 μ) ∧ (v3 < μ 113 21 → ((0 : Int) ≤ v3 ∧ v3 < 30) ∧ ((μ 139 v3 = 0 → z_I (v3 + 1) ∧ (z_ri m_X12_isTaken 2 [some (2, 113), some (0, v1), some (0, v2), some (0, v3 + 1)] μ d K)) ∧ (¬ μ 139 v3 = 0 → ((0 : Int) ≤ v3 ∧ v3 < 30) ∧ ((¬ μ 135 v3 = v1 → z_I (v3 + 1) ∧ (z_ri m_X12_isTaken 2 [some (2, 113), some (0, v1), some (0, v2), some (0, v3 + 1)] μ d K)) ∧ (μ 135 v3 = v1 → ((0 : Int) ≤ v3 ∧ v3 < 30) ∧ ((¬ μ 136 v3 = v2 → z_I (v3 + 1) ∧ (z_ri m_X12_isTaken 2 [some (2, 113), some (0, v1), some (0, v2), some (0, v3 + 1)] μ d K)) ∧ (μ 136 v3 = v2 → K 1 μ)))))))) : z_ri m_X12_isTaken 2 [some (2, 113), some (0, v1), some (0, v2), some (0, v3)] μ d K := by
  show z_R m_X12_isTaken 2 [some (2, 113), some (0, v1), some (0, v2), some (0, v3)] [] z_n μ d _
  refine z_iload_n dX12_isTaken_2 rfl ?_
  refine z_aload_n dX12_isTaken_3 rfl ?_
  refine n_getf (ji := 21) (t := 0) dX12_isTaken_4 zf_X12_205 k_113 rfl (by decide) rfl ?_
  refine z_icmp_ge (tgt := 47) dX12_isTaken_7 (by decide) (fun q1 => ?_) (fun q2 => ?_)
  · refine z_iconst dX12_isTaken_47 ⟨by decide, by decide⟩ ?_
    exact z_zreturn dX12_isTaken_48 rfl rfl (by decide) ⟨_, rfl, (h.1 q1)⟩
  · refine z_aload_n dX12_isTaken_10 rfl ?_
    refine n_getp (ji := 36) dX12_isTaken_11 zf_X12_87 k_113 rfl (by decide) rfl p_113_36 ?_
    refine z_iload_n dX12_isTaken_14 rfl ?_
    refine n_zald dX12_isTaken_15 k_139 (h.2 q2).1 ?_
    refine z_if_eq (tgt := 41) dX12_isTaken_16 (by decide) (fun q3 => ?_) (fun q4 => ?_)
    · refine n_iinc (lo' := [some (2, 113), some (0, v1), some (0, v2), some (0, v3 + 1)]) dX12_isTaken_41 rfl (by decide) ((h.2 q2).2.1 q3).1 rfl ?_
      refine z_goto (tgt := 2) dX12_isTaken_44 (by decide) ?_
      refine z_drop [some (2, 113), some (0, v1), some (0, v2), some (0, v3 + 1)] ⟨rfl, rfl, rfl, rfl, trivial⟩ ?_
      exact ((h.2 q2).2.1 q3).2
    · refine z_aload_n dX12_isTaken_19 rfl ?_
      refine n_getp (ji := 29) dX12_isTaken_20 zf_X12_75 k_113 rfl (by decide) rfl p_113_29 ?_
      refine z_iload_n dX12_isTaken_23 rfl ?_
      refine n_iald dX12_isTaken_24 k_135 ((h.2 q2).2.2 q4).1 ?_
      refine z_iload_n dX12_isTaken_25 rfl ?_
      refine z_icmp_ne (tgt := 41) dX12_isTaken_26 (by decide) (fun q5 => ?_) (fun q6 => ?_)
      · refine n_iinc (lo' := [some (2, 113), some (0, v1), some (0, v2), some (0, v3 + 1)]) dX12_isTaken_41 rfl (by decide) (((h.2 q2).2.2 q4).2.1 q5).1 rfl ?_
        refine z_goto (tgt := 2) dX12_isTaken_44 (by decide) ?_
        refine z_drop [some (2, 113), some (0, v1), some (0, v2), some (0, v3 + 1)] ⟨rfl, rfl, rfl, rfl, trivial⟩ ?_
        exact (((h.2 q2).2.2 q4).2.1 q5).2
      · refine z_aload_n dX12_isTaken_29 rfl ?_
        refine n_getp (ji := 30) dX12_isTaken_30 zf_X12_78 k_113 rfl (by decide) rfl p_113_30 ?_
        refine z_iload_n dX12_isTaken_33 rfl ?_
        refine n_iald dX12_isTaken_34 k_136 (((h.2 q2).2.2 q4).2.2 q6).1 ?_
        refine z_iload_n dX12_isTaken_35 rfl ?_
        refine z_icmp_ne (tgt := 41) dX12_isTaken_36 (by decide) (fun q7 => ?_) (fun q8 => ?_)
        · refine n_iinc (lo' := [some (2, 113), some (0, v1), some (0, v2), some (0, v3 + 1)]) dX12_isTaken_41 rfl (by decide) ((((h.2 q2).2.2 q4).2.2 q6).2.1 q7).1 rfl ?_
          refine z_goto (tgt := 2) dX12_isTaken_44 (by decide) ?_
          refine z_drop [some (2, 113), some (0, v1), some (0, v2), some (0, v3 + 1)] ⟨rfl, rfl, rfl, rfl, trivial⟩ ?_
          exact ((((h.2 q2).2.2 q4).2.2 q6).2.1 q7).2
        · refine z_iconst dX12_isTaken_39 ⟨by decide, by decide⟩ ?_
          exact z_zreturn dX12_isTaken_40 rfl rfl (by decide) ⟨_, rfl, ((((h.2 q2).2.2 q4).2.2 q6).2.2 q8)⟩
set_option maxRecDepth 20000 in
theorem V_X12_finds  {μ : z_Mem} {d : Nat} {K : Int → z_Mem → Prop} (h : z_I ((μ 113 37) + 1) ∧ (((z_st μ 113 37 ((μ 113 37) + 1)) 113 37 ≤ 3000 → (¬ (z_st μ 113 37 ((μ 113 37) + 1)) 113 38 = (z_st μ 113 37 ((μ 113 37) + 1)) 113 21 → z_ci m_X12_leastEdge [(2, 113)] (z_st μ 113 37 ((μ 113 37) + 1)) d (fun x7 m5 => (¬ x7 = (-1) → z_ci m_X12_firstOf [(2, 113), (0, x7)] m5 d (fun x12 m10 => ((0 : Int) ≤ x12 ∧ x12 < 30) ∧ ((m10 139 x12 = 0 → ((0 : Int) ≤ x7 ∧ x7 < 60) ∧ (z_ci m_X12_mate [(2, 113), (0, m10 127 x7)] m10 d (fun x17 m15 => ((0 : Int) ≤ x17 ∧ x17 < 120) ∧ (z_cn m_X12_rolls [(2, 113), (0, x17)] m15 d (fun m18 => ((0 : Int) ≤ m15 123 x17 ∧ m15 123 x17 < 30) ∧ (((0 : Int) ≤ m15 123 x17 ∧ m15 123 x17 < 30) ∧ (z_ci m_X12_isTaken [(2, 113), (0, m18 135 (m15 123 x17)), (0, m18 136 (m15 123 x17))] m18 d (fun x22 m20 => (¬ x22 = 0 → ((0 : Int) ≤ x7 ∧ x7 < 60) ∧ ((3000 < (z_st m20 138 x7 2) 113 37 → ((0 : Int) ≤ x7 ∧ x7 < 60) ∧ (K 0 (z_st (z_st m20 138 x7 2) 138 x7 0))) ∧ ((z_st m20 138 x7 2) 113 37 ≤ 3000 → z_ci m_X12_finds [(2, 113)] (z_st m20 138 x7 2) d (fun x29 m27 => (x29 = 0 → ((0 : Int) ≤ x7 ∧ x7 < 60) ∧ (K 0 (z_st m27 138 x7 0))) ∧ (¬ x29 = 0 → K 1 m27))))) ∧ (x22 = 0 → ((0 : Int) ≤ x7 ∧ x7 < 60) ∧ (((0 : Int) ≤ m15 123 x17 ∧ m15 123 x17 < 30) ∧ (z_I (((z_st (z_st m20 138 x7 1) 139 (m15 123 x17) 1) 113 38) + 1) ∧ (z_ci m_X12_finds [(2, 113)] (z_st (z_st (z_st m20 138 x7 1) 139 (m15 123 x17) 1) 113 38 (((z_st (z_st m20 138 x7 1) 139 (m15 123 x17) 1) 113 38) + 1)) d (fun x34 m32 => (x34 = 0 → ((0 : Int) ≤ m15 123 x17 ∧ m15 123 x17 < 30) ∧ (z_I (((z_st m32 139 (m15 123 x17) 0) 113 38) - 1) ∧ (((0 : Int) ≤ x7 ∧ x7 < 60) ∧ ((3000 < (z_st (z_st (z_st m32 139 (m15 123 x17) 0) 113 38 (((z_st m32 139 (m15 123 x17) 0) 113 38) - 1)) 138 x7 2) 113 37 → ((0 : Int) ≤ x7 ∧ x7 < 60) ∧ (K 0 (z_st (z_st (z_st (z_st m32 139 (m15 123 x17) 0) 113 38 (((z_st m32 139 (m15 123 x17) 0) 113 38) - 1)) 138 x7 2) 138 x7 0))) ∧ ((z_st (z_st (z_st m32 139 (m15 123 x17) 0) 113 38 (((z_st m32 139 (m15 123 x17) 0) 113 38) - 1)) 138 x7 2) 113 37 ≤ 3000 → z_ci m_X12_finds [(2, 113)] (z_st (z_st (z_st m32 139 (m15 123 x17) 0) 113 38 (((z_st m32 139 (m15 123 x17) 0) 113 38) - 1)) 138 x7 2) d (fun x41 m39 => (x41 = 0 → ((0 : Int) ≤ x7 ∧ x7 < 60) ∧ (K 0 (z_st m39 138 x7 0))) ∧ (¬ x41 = 0 → K 1 m39))))))) ∧ (¬ x34 = 0 → K 1 m32)))))))))))))) ∧ (¬ m10 139 x12 = 0 → ((0 : Int) ≤ x7 ∧ x7 < 60) ∧ (((0 : Int) ≤ m10 127 x7 ∧ m10 127 x7 < 120) ∧ (z_cn m_X12_rolls [(2, 113), (0, m10 127 x7)] m10 d (fun m44 => ((0 : Int) ≤ m10 123 (m10 127 x7) ∧ m10 123 (m10 127 x7) < 30) ∧ (((0 : Int) ≤ m10 123 (m10 127 x7) ∧ m10 123 (m10 127 x7) < 30) ∧ (z_ci m_X12_isTaken [(2, 113), (0, m44 135 (m10 123 (m10 127 x7))), (0, m44 136 (m10 123 (m10 127 x7)))] m44 d (fun x48 m46 => (¬ x48 = 0 → ((0 : Int) ≤ x7 ∧ x7 < 60) ∧ ((3000 < (z_st m46 138 x7 2) 113 37 → ((0 : Int) ≤ x7 ∧ x7 < 60) ∧ (K 0 (z_st (z_st m46 138 x7 2) 138 x7 0))) ∧ ((z_st m46 138 x7 2) 113 37 ≤ 3000 → z_ci m_X12_finds [(2, 113)] (z_st m46 138 x7 2) d (fun x55 m53 => (x55 = 0 → ((0 : Int) ≤ x7 ∧ x7 < 60) ∧ (K 0 (z_st m53 138 x7 0))) ∧ (¬ x55 = 0 → K 1 m53))))) ∧ (x48 = 0 → ((0 : Int) ≤ x7 ∧ x7 < 60) ∧ (((0 : Int) ≤ m10 123 (m10 127 x7) ∧ m10 123 (m10 127 x7) < 30) ∧ (z_I (((z_st (z_st m46 138 x7 1) 139 (m10 123 (m10 127 x7)) 1) 113 38) + 1) ∧ (z_ci m_X12_finds [(2, 113)] (z_st (z_st (z_st m46 138 x7 1) 139 (m10 123 (m10 127 x7)) 1) 113 38 (((z_st (z_st m46 138 x7 1) 139 (m10 123 (m10 127 x7)) 1) 113 38) + 1)) d (fun x60 m58 => (x60 = 0 → ((0 : Int) ≤ m10 123 (m10 127 x7) ∧ m10 123 (m10 127 x7) < 30) ∧ (z_I (((z_st m58 139 (m10 123 (m10 127 x7)) 0) 113 38) - 1) ∧ (((0 : Int) ≤ x7 ∧ x7 < 60) ∧ ((3000 < (z_st (z_st (z_st m58 139 (m10 123 (m10 127 x7)) 0) 113 38 (((z_st m58 139 (m10 123 (m10 127 x7)) 0) 113 38) - 1)) 138 x7 2) 113 37 → ((0 : Int) ≤ x7 ∧ x7 < 60) ∧ (K 0 (z_st (z_st (z_st (z_st m58 139 (m10 123 (m10 127 x7)) 0) 113 38 (((z_st m58 139 (m10 123 (m10 127 x7)) 0) 113 38) - 1)) 138 x7 2) 138 x7 0))) ∧ ((z_st (z_st (z_st m58 139 (m10 123 (m10 127 x7)) 0) 113 38 (((z_st m58 139 (m10 123 (m10 127 x7)) 0) 113 38) - 1)) 138 x7 2) 113 37 ≤ 3000 → z_ci m_X12_finds [(2, 113)] (z_st (z_st (z_st m58 139 (m10 123 (m10 127 x7)) 0) 113 38 (((z_st m58 139 (m10 123 (m10 127 x7)) 0) 113 38) - 1)) 138 x7 2) d (fun x67 m65 => (x67 = 0 → ((0 : Int) ≤ x7 ∧ x7 < 60) ∧ (K 0 (z_st m65 138 x7 0))) ∧ (¬ x67 = 0 → K 1 m65))))))) ∧ (¬ x60 = 0 → K 1 m58)))))))))))))))) ∧ (x7 = (-1) → K 0 m5))) ∧ ((z_st μ 113 37 ((μ 113 37) + 1)) 113 38 = (z_st μ 113 37 ((μ 113 37) + 1)) 113 21 → K 1 (z_st μ 113 37 ((μ 113 37) + 1)))) ∧ (3000 < (z_st μ 113 37 ((μ 113 37) + 1)) 113 37 → K 0 (z_st μ 113 37 ((μ 113 37) + 1))))) : z_ci m_X12_finds [(2, 113)] μ (d + 1) K := by
  show z_R m_X12_finds 0 [some (2, 113), none, none, none] [] z_n μ (d + 1) _
  refine z_aload_n dX12_finds_0 rfl ?_
  refine z_dup dX12_finds_1 rfl ?_
  refine n_getf (ji := 37) (t := 0) dX12_finds_2 zf_X12_336 k_113 rfl (by decide) rfl ?_
  refine z_iconst dX12_finds_5 ⟨by decide, by decide⟩ ?_
  refine z_iadd dX12_finds_6 h.1 ?_
  refine n_putI (ji := 37) dX12_finds_7 zf_X12_336 k_113 rfl (by decide) rfl ?_
  refine z_aload_n dX12_finds_10 rfl ?_
  refine n_getf (ji := 37) (t := 0) dX12_finds_11 zf_X12_336 k_113 rfl (by decide) rfl ?_
  refine z_sipush dX12_finds_14 (by decide) ?_
  refine z_icmp_le (tgt := 22) dX12_finds_17 (by decide) (fun q1 => ?_) (fun q2 => ?_)
  · refine z_aload_n dX12_finds_22 rfl ?_
    refine n_getf (ji := 38) (t := 0) dX12_finds_23 zf_X12_339 k_113 rfl (by decide) rfl ?_
    refine z_aload_n dX12_finds_26 rfl ?_
    refine n_getf (ji := 21) (t := 0) dX12_finds_27 zf_X12_205 k_113 rfl (by decide) rfl ?_
    refine z_icmp_ne (tgt := 35) dX12_finds_30 (by decide) (fun q3 => ?_) (fun q4 => ?_)
    · refine z_aload_n dX12_finds_35 rfl ?_
      refine n_vI (as := []) (rest := []) dX12_finds_36 zm_X12_leastEdge zs_X12_342 k_113 (by decide) rfl rfl (Nat.le_of_ble_eq_true rfl) (Nat.le_of_ble_eq_true rfl) ((h.2.1 q1).1 q3) (fun x7 m5 h6 => ?_)
      refine n_istore_n (lo' := [some (2, 113), some (0, x7), none, none]) dX12_finds_39 ⟨Nat.le_of_ble_eq_true rfl, Nat.le_of_ble_eq_true rfl⟩ rfl ?_
      refine z_iload_n dX12_finds_40 rfl ?_
      refine z_iconst dX12_finds_41 ⟨by decide, by decide⟩ ?_
      refine z_icmp_ne (tgt := 47) dX12_finds_42 (by decide) (fun q8 => ?_) (fun q9 => ?_)
      · refine z_aload_n dX12_finds_47 rfl ?_
        refine n_getp (ji := 36) dX12_finds_48 zf_X12_87 k_113 rfl (by decide) rfl p_113_36 ?_
        refine z_aload_n dX12_finds_51 rfl ?_
        refine z_iload_n dX12_finds_52 rfl ?_
        refine n_vI (as := [(0, x7)]) (rest := [(2, 139)]) dX12_finds_53 zm_X12_firstOf zs_X12_266 k_113 (by decide) rfl rfl (Nat.le_of_ble_eq_true rfl) (Nat.le_of_ble_eq_true rfl) (h6.1 q8) (fun x12 m10 h11 => ?_)
        refine n_zald dX12_finds_56 k_139 h11.1 ?_
        refine z_if_eq (tgt := 69) dX12_finds_57 (by decide) (fun q13 => ?_) (fun q14 => ?_)
        · refine z_aload_n dX12_finds_69 rfl ?_
          refine z_aload_n dX12_finds_70 rfl ?_
          refine n_getp (ji := 18) dX12_finds_71 zf_X12_51 k_113 rfl (by decide) rfl p_113_18 ?_
          refine z_iload_n dX12_finds_74 rfl ?_
          refine n_iald dX12_finds_75 k_127 (h11.2.1 q13).1 ?_
          refine n_vI (as := [(0, m10 127 x7)]) (rest := []) dX12_finds_76 zm_X12_mate zs_X12_248 k_113 (by decide) rfl rfl (Nat.le_of_ble_eq_true rfl) (Nat.le_of_ble_eq_true rfl) (h11.2.1 q13).2 (fun x17 m15 h16 => ?_)
          refine n_istore_n (lo' := [some (2, 113), some (0, x7), some (0, x17), none]) dX12_finds_79 ⟨Nat.le_of_ble_eq_true rfl, Nat.le_of_ble_eq_true rfl⟩ rfl ?_
          refine z_aload_n dX12_finds_80 rfl ?_
          refine n_getp (ji := 14) dX12_finds_81 zf_X12_39 k_113 rfl (by decide) rfl p_113_14 ?_
          refine z_iload_n dX12_finds_84 rfl ?_
          refine n_iald dX12_finds_85 k_123 h16.1 ?_
          refine n_istore_n (lo' := [some (2, 113), some (0, x7), some (0, x17), some (0, m15 123 x17)]) dX12_finds_86 ⟨Nat.le_of_ble_eq_true rfl, Nat.le_of_ble_eq_true rfl⟩ rfl ?_
          refine z_aload_n dX12_finds_87 rfl ?_
          refine z_iload_n dX12_finds_88 rfl ?_
          refine n_vN (as := [(0, x17)]) (rest := []) dX12_finds_89 zm_X12_rolls zs_X12_301 k_113 (by decide) rfl rfl (Nat.le_of_ble_eq_true rfl) (Nat.le_of_ble_eq_true rfl) h16.2 (fun m18 h19 => ?_)
          refine z_aload_n dX12_finds_92 rfl ?_
          refine z_aload_n dX12_finds_93 rfl ?_
          refine n_getp (ji := 29) dX12_finds_94 zf_X12_75 k_113 rfl (by decide) rfl p_113_29 ?_
          refine z_iload_n dX12_finds_97 rfl ?_
          refine n_iald dX12_finds_98 k_135 h19.1 ?_
          refine z_aload_n dX12_finds_99 rfl ?_
          refine n_getp (ji := 30) dX12_finds_100 zf_X12_78 k_113 rfl (by decide) rfl p_113_30 ?_
          refine z_iload_n dX12_finds_103 rfl ?_
          refine n_iald dX12_finds_104 k_136 h19.2.1 ?_
          refine n_vI (as := [(0, m18 135 (m15 123 x17)), (0, m18 136 (m15 123 x17))]) (rest := []) dX12_finds_105 zm_X12_isTaken zs_X12_345 k_113 (by decide) rfl rfl (Nat.le_of_ble_eq_true rfl) (Nat.le_of_ble_eq_true rfl) h19.2.2 (fun x22 m20 h21 => ?_)
          refine z_if_ne (tgt := 161) dX12_finds_108 (by decide) (fun q23 => ?_) (fun q24 => ?_)
          · refine z_aload_n dX12_finds_161 rfl ?_
            refine n_getp (ji := 35) dX12_finds_162 zf_X12_84 k_113 rfl (by decide) rfl p_113_35 ?_
            refine z_iload_n dX12_finds_165 rfl ?_
            refine z_iconst dX12_finds_166 ⟨by decide, by decide⟩ ?_
            refine n_iast dX12_finds_167 k_138 (h21.1 q23).1 ?_
            refine z_aload_n dX12_finds_168 rfl ?_
            refine n_getf (ji := 37) (t := 0) dX12_finds_169 zf_X12_336 k_113 rfl (by decide) rfl ?_
            refine z_sipush dX12_finds_172 (by decide) ?_
            refine z_icmp_gt (tgt := 187) dX12_finds_175 (by decide) (fun q25 => ?_) (fun q26 => ?_)
            · refine z_aload_n dX12_finds_187 rfl ?_
              refine n_getp (ji := 35) dX12_finds_188 zf_X12_84 k_113 rfl (by decide) rfl p_113_35 ?_
              refine z_iload_n dX12_finds_191 rfl ?_
              refine z_iconst dX12_finds_192 ⟨by decide, by decide⟩ ?_
              refine n_iast dX12_finds_193 k_138 ((h21.1 q23).2.1 q25).1 ?_
              refine z_iconst dX12_finds_194 ⟨by decide, by decide⟩ ?_
              exact z_zreturn dX12_finds_195 rfl rfl (by decide) ⟨_, rfl, ((h21.1 q23).2.1 q25).2⟩
            · refine z_aload_n dX12_finds_178 rfl ?_
              refine n_vI (as := []) (rest := []) dX12_finds_179 zm_X12_finds zs_X12_348 k_113 (by decide) rfl rfl (Nat.le_of_ble_eq_true rfl) (Nat.le_of_ble_eq_true rfl) ((h21.1 q23).2.2 q26) (fun x29 m27 h28 => ?_)
              refine z_if_eq (tgt := 187) dX12_finds_182 (by decide) (fun q30 => ?_) (fun q31 => ?_)
              · refine z_aload_n dX12_finds_187 rfl ?_
                refine n_getp (ji := 35) dX12_finds_188 zf_X12_84 k_113 rfl (by decide) rfl p_113_35 ?_
                refine z_iload_n dX12_finds_191 rfl ?_
                refine z_iconst dX12_finds_192 ⟨by decide, by decide⟩ ?_
                refine n_iast dX12_finds_193 k_138 (h28.1 q30).1 ?_
                refine z_iconst dX12_finds_194 ⟨by decide, by decide⟩ ?_
                exact z_zreturn dX12_finds_195 rfl rfl (by decide) ⟨_, rfl, (h28.1 q30).2⟩
              · refine z_iconst dX12_finds_185 ⟨by decide, by decide⟩ ?_
                exact z_zreturn dX12_finds_186 rfl rfl (by decide) ⟨_, rfl, (h28.2 q31)⟩
          · refine z_aload_n dX12_finds_111 rfl ?_
            refine n_getp (ji := 35) dX12_finds_112 zf_X12_84 k_113 rfl (by decide) rfl p_113_35 ?_
            refine z_iload_n dX12_finds_115 rfl ?_
            refine z_iconst dX12_finds_116 ⟨by decide, by decide⟩ ?_
            refine n_iast dX12_finds_117 k_138 (h21.2 q24).1 ?_
            refine z_aload_n dX12_finds_118 rfl ?_
            refine n_getp (ji := 36) dX12_finds_119 zf_X12_87 k_113 rfl (by decide) rfl p_113_36 ?_
            refine z_iload_n dX12_finds_122 rfl ?_
            refine z_iconst dX12_finds_123 ⟨by decide, by decide⟩ ?_
            refine n_zast dX12_finds_124 k_139 (h21.2 q24).2.1 (by decide) ?_
            refine z_aload_n dX12_finds_125 rfl ?_
            refine z_dup dX12_finds_126 rfl ?_
            refine n_getf (ji := 38) (t := 0) dX12_finds_127 zf_X12_339 k_113 rfl (by decide) rfl ?_
            refine z_iconst dX12_finds_130 ⟨by decide, by decide⟩ ?_
            refine z_iadd dX12_finds_131 (h21.2 q24).2.2.1 ?_
            refine n_putI (ji := 38) dX12_finds_132 zf_X12_339 k_113 rfl (by decide) rfl ?_
            refine z_aload_n dX12_finds_135 rfl ?_
            refine n_vI (as := []) (rest := []) dX12_finds_136 zm_X12_finds zs_X12_348 k_113 (by decide) rfl rfl (Nat.le_of_ble_eq_true rfl) (Nat.le_of_ble_eq_true rfl) (h21.2 q24).2.2.2 (fun x34 m32 h33 => ?_)
            refine z_if_eq (tgt := 144) dX12_finds_139 (by decide) (fun q35 => ?_) (fun q36 => ?_)
            · refine z_aload_n dX12_finds_144 rfl ?_
              refine n_getp (ji := 36) dX12_finds_145 zf_X12_87 k_113 rfl (by decide) rfl p_113_36 ?_
              refine z_iload_n dX12_finds_148 rfl ?_
              refine z_iconst dX12_finds_149 ⟨by decide, by decide⟩ ?_
              refine n_zast dX12_finds_150 k_139 (h33.1 q35).1 (by decide) ?_
              refine z_aload_n dX12_finds_151 rfl ?_
              refine z_dup dX12_finds_152 rfl ?_
              refine n_getf (ji := 38) (t := 0) dX12_finds_153 zf_X12_339 k_113 rfl (by decide) rfl ?_
              refine z_iconst dX12_finds_156 ⟨by decide, by decide⟩ ?_
              refine z_isub dX12_finds_157 (h33.1 q35).2.1 ?_
              refine n_putI (ji := 38) dX12_finds_158 zf_X12_339 k_113 rfl (by decide) rfl ?_
              refine z_aload_n dX12_finds_161 rfl ?_
              refine n_getp (ji := 35) dX12_finds_162 zf_X12_84 k_113 rfl (by decide) rfl p_113_35 ?_
              refine z_iload_n dX12_finds_165 rfl ?_
              refine z_iconst dX12_finds_166 ⟨by decide, by decide⟩ ?_
              refine n_iast dX12_finds_167 k_138 (h33.1 q35).2.2.1 ?_
              refine z_aload_n dX12_finds_168 rfl ?_
              refine n_getf (ji := 37) (t := 0) dX12_finds_169 zf_X12_336 k_113 rfl (by decide) rfl ?_
              refine z_sipush dX12_finds_172 (by decide) ?_
              refine z_icmp_gt (tgt := 187) dX12_finds_175 (by decide) (fun q37 => ?_) (fun q38 => ?_)
              · refine z_aload_n dX12_finds_187 rfl ?_
                refine n_getp (ji := 35) dX12_finds_188 zf_X12_84 k_113 rfl (by decide) rfl p_113_35 ?_
                refine z_iload_n dX12_finds_191 rfl ?_
                refine z_iconst dX12_finds_192 ⟨by decide, by decide⟩ ?_
                refine n_iast dX12_finds_193 k_138 ((h33.1 q35).2.2.2.1 q37).1 ?_
                refine z_iconst dX12_finds_194 ⟨by decide, by decide⟩ ?_
                exact z_zreturn dX12_finds_195 rfl rfl (by decide) ⟨_, rfl, ((h33.1 q35).2.2.2.1 q37).2⟩
              · refine z_aload_n dX12_finds_178 rfl ?_
                refine n_vI (as := []) (rest := []) dX12_finds_179 zm_X12_finds zs_X12_348 k_113 (by decide) rfl rfl (Nat.le_of_ble_eq_true rfl) (Nat.le_of_ble_eq_true rfl) ((h33.1 q35).2.2.2.2 q38) (fun x41 m39 h40 => ?_)
                refine z_if_eq (tgt := 187) dX12_finds_182 (by decide) (fun q42 => ?_) (fun q43 => ?_)
                · refine z_aload_n dX12_finds_187 rfl ?_
                  refine n_getp (ji := 35) dX12_finds_188 zf_X12_84 k_113 rfl (by decide) rfl p_113_35 ?_
                  refine z_iload_n dX12_finds_191 rfl ?_
                  refine z_iconst dX12_finds_192 ⟨by decide, by decide⟩ ?_
                  refine n_iast dX12_finds_193 k_138 (h40.1 q42).1 ?_
                  refine z_iconst dX12_finds_194 ⟨by decide, by decide⟩ ?_
                  exact z_zreturn dX12_finds_195 rfl rfl (by decide) ⟨_, rfl, (h40.1 q42).2⟩
                · refine z_iconst dX12_finds_185 ⟨by decide, by decide⟩ ?_
                  exact z_zreturn dX12_finds_186 rfl rfl (by decide) ⟨_, rfl, (h40.2 q43)⟩
            · refine z_iconst dX12_finds_142 ⟨by decide, by decide⟩ ?_
              exact z_zreturn dX12_finds_143 rfl rfl (by decide) ⟨_, rfl, (h33.2 q36)⟩
        · refine z_aload_n dX12_finds_60 rfl ?_
          refine n_getp (ji := 18) dX12_finds_61 zf_X12_51 k_113 rfl (by decide) rfl p_113_18 ?_
          refine z_iload_n dX12_finds_64 rfl ?_
          refine n_iald dX12_finds_65 k_127 (h11.2.2 q14).1 ?_
          refine z_goto (tgt := 79) dX12_finds_66 (by decide) ?_
          refine n_istore_n (lo' := [some (2, 113), some (0, x7), some (0, m10 127 x7), none]) dX12_finds_79 ⟨Nat.le_of_ble_eq_true rfl, Nat.le_of_ble_eq_true rfl⟩ rfl ?_
          refine z_aload_n dX12_finds_80 rfl ?_
          refine n_getp (ji := 14) dX12_finds_81 zf_X12_39 k_113 rfl (by decide) rfl p_113_14 ?_
          refine z_iload_n dX12_finds_84 rfl ?_
          refine n_iald dX12_finds_85 k_123 (h11.2.2 q14).2.1 ?_
          refine n_istore_n (lo' := [some (2, 113), some (0, x7), some (0, m10 127 x7), some (0, m10 123 (m10 127 x7))]) dX12_finds_86 ⟨Nat.le_of_ble_eq_true rfl, Nat.le_of_ble_eq_true rfl⟩ rfl ?_
          refine z_aload_n dX12_finds_87 rfl ?_
          refine z_iload_n dX12_finds_88 rfl ?_
          refine n_vN (as := [(0, m10 127 x7)]) (rest := []) dX12_finds_89 zm_X12_rolls zs_X12_301 k_113 (by decide) rfl rfl (Nat.le_of_ble_eq_true rfl) (Nat.le_of_ble_eq_true rfl) (h11.2.2 q14).2.2 (fun m44 h45 => ?_)
          refine z_aload_n dX12_finds_92 rfl ?_
          refine z_aload_n dX12_finds_93 rfl ?_
          refine n_getp (ji := 29) dX12_finds_94 zf_X12_75 k_113 rfl (by decide) rfl p_113_29 ?_
          refine z_iload_n dX12_finds_97 rfl ?_
          refine n_iald dX12_finds_98 k_135 h45.1 ?_
          refine z_aload_n dX12_finds_99 rfl ?_
          refine n_getp (ji := 30) dX12_finds_100 zf_X12_78 k_113 rfl (by decide) rfl p_113_30 ?_
          refine z_iload_n dX12_finds_103 rfl ?_
          refine n_iald dX12_finds_104 k_136 h45.2.1 ?_
          refine n_vI (as := [(0, m44 135 (m10 123 (m10 127 x7))), (0, m44 136 (m10 123 (m10 127 x7)))]) (rest := []) dX12_finds_105 zm_X12_isTaken zs_X12_345 k_113 (by decide) rfl rfl (Nat.le_of_ble_eq_true rfl) (Nat.le_of_ble_eq_true rfl) h45.2.2 (fun x48 m46 h47 => ?_)
          refine z_if_ne (tgt := 161) dX12_finds_108 (by decide) (fun q49 => ?_) (fun q50 => ?_)
          · refine z_aload_n dX12_finds_161 rfl ?_
            refine n_getp (ji := 35) dX12_finds_162 zf_X12_84 k_113 rfl (by decide) rfl p_113_35 ?_
            refine z_iload_n dX12_finds_165 rfl ?_
            refine z_iconst dX12_finds_166 ⟨by decide, by decide⟩ ?_
            refine n_iast dX12_finds_167 k_138 (h47.1 q49).1 ?_
            refine z_aload_n dX12_finds_168 rfl ?_
            refine n_getf (ji := 37) (t := 0) dX12_finds_169 zf_X12_336 k_113 rfl (by decide) rfl ?_
            refine z_sipush dX12_finds_172 (by decide) ?_
            refine z_icmp_gt (tgt := 187) dX12_finds_175 (by decide) (fun q51 => ?_) (fun q52 => ?_)
            · refine z_aload_n dX12_finds_187 rfl ?_
              refine n_getp (ji := 35) dX12_finds_188 zf_X12_84 k_113 rfl (by decide) rfl p_113_35 ?_
              refine z_iload_n dX12_finds_191 rfl ?_
              refine z_iconst dX12_finds_192 ⟨by decide, by decide⟩ ?_
              refine n_iast dX12_finds_193 k_138 ((h47.1 q49).2.1 q51).1 ?_
              refine z_iconst dX12_finds_194 ⟨by decide, by decide⟩ ?_
              exact z_zreturn dX12_finds_195 rfl rfl (by decide) ⟨_, rfl, ((h47.1 q49).2.1 q51).2⟩
            · refine z_aload_n dX12_finds_178 rfl ?_
              refine n_vI (as := []) (rest := []) dX12_finds_179 zm_X12_finds zs_X12_348 k_113 (by decide) rfl rfl (Nat.le_of_ble_eq_true rfl) (Nat.le_of_ble_eq_true rfl) ((h47.1 q49).2.2 q52) (fun x55 m53 h54 => ?_)
              refine z_if_eq (tgt := 187) dX12_finds_182 (by decide) (fun q56 => ?_) (fun q57 => ?_)
              · refine z_aload_n dX12_finds_187 rfl ?_
                refine n_getp (ji := 35) dX12_finds_188 zf_X12_84 k_113 rfl (by decide) rfl p_113_35 ?_
                refine z_iload_n dX12_finds_191 rfl ?_
                refine z_iconst dX12_finds_192 ⟨by decide, by decide⟩ ?_
                refine n_iast dX12_finds_193 k_138 (h54.1 q56).1 ?_
                refine z_iconst dX12_finds_194 ⟨by decide, by decide⟩ ?_
                exact z_zreturn dX12_finds_195 rfl rfl (by decide) ⟨_, rfl, (h54.1 q56).2⟩
              · refine z_iconst dX12_finds_185 ⟨by decide, by decide⟩ ?_
                exact z_zreturn dX12_finds_186 rfl rfl (by decide) ⟨_, rfl, (h54.2 q57)⟩
          · refine z_aload_n dX12_finds_111 rfl ?_
            refine n_getp (ji := 35) dX12_finds_112 zf_X12_84 k_113 rfl (by decide) rfl p_113_35 ?_
            refine z_iload_n dX12_finds_115 rfl ?_
            refine z_iconst dX12_finds_116 ⟨by decide, by decide⟩ ?_
            refine n_iast dX12_finds_117 k_138 (h47.2 q50).1 ?_
            refine z_aload_n dX12_finds_118 rfl ?_
            refine n_getp (ji := 36) dX12_finds_119 zf_X12_87 k_113 rfl (by decide) rfl p_113_36 ?_
            refine z_iload_n dX12_finds_122 rfl ?_
            refine z_iconst dX12_finds_123 ⟨by decide, by decide⟩ ?_
            refine n_zast dX12_finds_124 k_139 (h47.2 q50).2.1 (by decide) ?_
            refine z_aload_n dX12_finds_125 rfl ?_
            refine z_dup dX12_finds_126 rfl ?_
            refine n_getf (ji := 38) (t := 0) dX12_finds_127 zf_X12_339 k_113 rfl (by decide) rfl ?_
            refine z_iconst dX12_finds_130 ⟨by decide, by decide⟩ ?_
            refine z_iadd dX12_finds_131 (h47.2 q50).2.2.1 ?_
            refine n_putI (ji := 38) dX12_finds_132 zf_X12_339 k_113 rfl (by decide) rfl ?_
            refine z_aload_n dX12_finds_135 rfl ?_
            refine n_vI (as := []) (rest := []) dX12_finds_136 zm_X12_finds zs_X12_348 k_113 (by decide) rfl rfl (Nat.le_of_ble_eq_true rfl) (Nat.le_of_ble_eq_true rfl) (h47.2 q50).2.2.2 (fun x60 m58 h59 => ?_)
            refine z_if_eq (tgt := 144) dX12_finds_139 (by decide) (fun q61 => ?_) (fun q62 => ?_)
            · refine z_aload_n dX12_finds_144 rfl ?_
              refine n_getp (ji := 36) dX12_finds_145 zf_X12_87 k_113 rfl (by decide) rfl p_113_36 ?_
              refine z_iload_n dX12_finds_148 rfl ?_
              refine z_iconst dX12_finds_149 ⟨by decide, by decide⟩ ?_
              refine n_zast dX12_finds_150 k_139 (h59.1 q61).1 (by decide) ?_
              refine z_aload_n dX12_finds_151 rfl ?_
              refine z_dup dX12_finds_152 rfl ?_
              refine n_getf (ji := 38) (t := 0) dX12_finds_153 zf_X12_339 k_113 rfl (by decide) rfl ?_
              refine z_iconst dX12_finds_156 ⟨by decide, by decide⟩ ?_
              refine z_isub dX12_finds_157 (h59.1 q61).2.1 ?_
              refine n_putI (ji := 38) dX12_finds_158 zf_X12_339 k_113 rfl (by decide) rfl ?_
              refine z_aload_n dX12_finds_161 rfl ?_
              refine n_getp (ji := 35) dX12_finds_162 zf_X12_84 k_113 rfl (by decide) rfl p_113_35 ?_
              refine z_iload_n dX12_finds_165 rfl ?_
              refine z_iconst dX12_finds_166 ⟨by decide, by decide⟩ ?_
              refine n_iast dX12_finds_167 k_138 (h59.1 q61).2.2.1 ?_
              refine z_aload_n dX12_finds_168 rfl ?_
              refine n_getf (ji := 37) (t := 0) dX12_finds_169 zf_X12_336 k_113 rfl (by decide) rfl ?_
              refine z_sipush dX12_finds_172 (by decide) ?_
              refine z_icmp_gt (tgt := 187) dX12_finds_175 (by decide) (fun q63 => ?_) (fun q64 => ?_)
              · refine z_aload_n dX12_finds_187 rfl ?_
                refine n_getp (ji := 35) dX12_finds_188 zf_X12_84 k_113 rfl (by decide) rfl p_113_35 ?_
                refine z_iload_n dX12_finds_191 rfl ?_
                refine z_iconst dX12_finds_192 ⟨by decide, by decide⟩ ?_
                refine n_iast dX12_finds_193 k_138 ((h59.1 q61).2.2.2.1 q63).1 ?_
                refine z_iconst dX12_finds_194 ⟨by decide, by decide⟩ ?_
                exact z_zreturn dX12_finds_195 rfl rfl (by decide) ⟨_, rfl, ((h59.1 q61).2.2.2.1 q63).2⟩
              · refine z_aload_n dX12_finds_178 rfl ?_
                refine n_vI (as := []) (rest := []) dX12_finds_179 zm_X12_finds zs_X12_348 k_113 (by decide) rfl rfl (Nat.le_of_ble_eq_true rfl) (Nat.le_of_ble_eq_true rfl) ((h59.1 q61).2.2.2.2 q64) (fun x67 m65 h66 => ?_)
                refine z_if_eq (tgt := 187) dX12_finds_182 (by decide) (fun q68 => ?_) (fun q69 => ?_)
                · refine z_aload_n dX12_finds_187 rfl ?_
                  refine n_getp (ji := 35) dX12_finds_188 zf_X12_84 k_113 rfl (by decide) rfl p_113_35 ?_
                  refine z_iload_n dX12_finds_191 rfl ?_
                  refine z_iconst dX12_finds_192 ⟨by decide, by decide⟩ ?_
                  refine n_iast dX12_finds_193 k_138 (h66.1 q68).1 ?_
                  refine z_iconst dX12_finds_194 ⟨by decide, by decide⟩ ?_
                  exact z_zreturn dX12_finds_195 rfl rfl (by decide) ⟨_, rfl, (h66.1 q68).2⟩
                · refine z_iconst dX12_finds_185 ⟨by decide, by decide⟩ ?_
                  exact z_zreturn dX12_finds_186 rfl rfl (by decide) ⟨_, rfl, (h66.2 q69)⟩
            · refine z_iconst dX12_finds_142 ⟨by decide, by decide⟩ ?_
              exact z_zreturn dX12_finds_143 rfl rfl (by decide) ⟨_, rfl, (h59.2 q62)⟩
      · refine z_iconst dX12_finds_45 ⟨by decide, by decide⟩ ?_
        exact z_zreturn dX12_finds_46 rfl rfl (by decide) ⟨_, rfl, (h6.2 q9)⟩
    · refine z_iconst dX12_finds_33 ⟨by decide, by decide⟩ ?_
      exact z_zreturn dX12_finds_34 rfl rfl (by decide) ⟨_, rfl, ((h.2.1 q1).2 q4)⟩
  · refine z_iconst dX12_finds_20 ⟨by decide, by decide⟩ ?_
    exact z_zreturn dX12_finds_21 rfl rfl (by decide) ⟨_, rfl, (h.2.2 q2)⟩
set_option maxRecDepth 20000 in
theorem V_X12_seek  {μ : z_Mem} {d : Nat} {K : Int → z_Mem → Prop} (h : (¬ μ 113 21 = 0 → z_ri m_X12_seek 11 [some (2, 113), some (0, 0), none] μ (d + 1) K) ∧ (μ 113 21 = 0 → K (-1) μ)) : z_ci m_X12_seek [(2, 113)] μ (d + 1) K := by
  show z_R m_X12_seek 0 [some (2, 113), none, none] [] z_n μ (d + 1) _
  refine z_aload_n dX12_seek_0 rfl ?_
  refine n_getf (ji := 21) (t := 0) dX12_seek_1 zf_X12_205 k_113 rfl (by decide) rfl ?_
  refine z_if_ne (tgt := 9) dX12_seek_4 (by decide) (fun q1 => ?_) (fun q2 => ?_)
  · refine z_iconst dX12_seek_9 ⟨by decide, by decide⟩ ?_
    refine n_istore_n (lo' := [some (2, 113), some (0, 0), none]) dX12_seek_10 ⟨Nat.le_of_ble_eq_true rfl, Nat.le_of_ble_eq_true rfl⟩ rfl ?_
    refine z_drop [some (2, 113), some (0, 0), none] ⟨rfl, rfl, trivial⟩ ?_
    exact (h.1 q1)
  · refine z_iconst dX12_seek_7 ⟨by decide, by decide⟩ ?_
    exact z_ireturn dX12_seek_8 rfl rfl ⟨_, rfl, (h.2 q2)⟩
set_option maxRecDepth 20000 in
theorem V_X12_seek_11 {v1 : Int}  {μ : z_Mem} {d : Nat} {K : Int → z_Mem → Prop} (h : (μ 113 22 ≤ v1 → z_ri m_X12_seek 34 [some (2, 113), some (0, 0), none] μ (d + 1) K) ∧ (v1 < μ 113 22 → ((0 : Int) ≤ v1 ∧ v1 < 60) ∧ (z_I (v1 + 1) ∧ (z_ri m_X12_seek 11 [some (2, 113), some (0, v1 + 1), none] (z_st μ 138 v1 0) (d + 1) K)))) : z_ri m_X12_seek 11 [some (2, 113), some (0, v1), none] μ (d + 1) K := by
  show z_R m_X12_seek 11 [some (2, 113), some (0, v1), none] [] z_n μ (d + 1) _
  refine z_iload_n dX12_seek_11 rfl ?_
  refine z_aload_n dX12_seek_12 rfl ?_
  refine n_getf (ji := 22) (t := 0) dX12_seek_13 zf_X12_245 k_113 rfl (by decide) rfl ?_
  refine z_icmp_ge (tgt := 32) dX12_seek_16 (by decide) (fun q1 => ?_) (fun q2 => ?_)
  · refine z_iconst dX12_seek_32 ⟨by decide, by decide⟩ ?_
    refine n_istore_n (lo' := [some (2, 113), some (0, 0), none]) dX12_seek_33 ⟨Nat.le_of_ble_eq_true rfl, Nat.le_of_ble_eq_true rfl⟩ rfl ?_
    refine z_drop [some (2, 113), some (0, 0), none] ⟨rfl, rfl, trivial⟩ ?_
    exact (h.1 q1)
  · refine z_aload_n dX12_seek_19 rfl ?_
    refine n_getp (ji := 35) dX12_seek_20 zf_X12_84 k_113 rfl (by decide) rfl p_113_35 ?_
    refine z_iload_n dX12_seek_23 rfl ?_
    refine z_iconst dX12_seek_24 ⟨by decide, by decide⟩ ?_
    refine n_iast dX12_seek_25 k_138 (h.2 q2).1 ?_
    refine n_iinc (lo' := [some (2, 113), some (0, v1 + 1), none]) dX12_seek_26 rfl (by decide) (h.2 q2).2.1 rfl ?_
    refine z_goto (tgt := 11) dX12_seek_29 (by decide) ?_
    refine z_drop [some (2, 113), some (0, v1 + 1), none] ⟨rfl, rfl, trivial⟩ ?_
    exact (h.2 q2).2.2
set_option maxRecDepth 20000 in
theorem V_X12_seek_34 {v1 : Int}  {μ : z_Mem} {d : Nat} {K : Int → z_Mem → Prop} (h : (μ 113 21 ≤ v1 → ((0 : Int) ≤ μ 114 22 ∧ μ 114 22 < 30) ∧ (((0 : Int) ≤ (z_st μ 135 (μ 114 22) 0) 114 22 ∧ (z_st μ 135 (μ 114 22) 0) 114 22 < 30) ∧ (((0 : Int) ≤ (z_st (z_st μ 135 (μ 114 22) 0) 136 ((z_st μ 135 (μ 114 22) 0) 114 22) 0) 114 22 ∧ (z_st (z_st μ 135 (μ 114 22) 0) 136 ((z_st μ 135 (μ 114 22) 0) 114 22) 0) 114 22 < 30) ∧ (z_ci m_X12_finds [(2, 113)] (z_st (z_st (z_st (z_st (z_st μ 135 (μ 114 22) 0) 136 ((z_st μ 135 (μ 114 22) 0) 114 22) 0) 137 ((z_st (z_st μ 135 (μ 114 22) 0) 136 ((z_st μ 135 (μ 114 22) 0) 114 22) 0) 114 22) 0) 113 38 1) 113 37 0) d (fun x5 m3 => (¬ x5 = 0 → z_cn m_X12_keepsPast [(2, 113)] m3 d (fun m8 => z_ri m_X12_seek 152 [some (2, 113), none, some (0, 0)] m8 (d + 1) K)) ∧ (x5 = 0 → (m3 113 37 ≤ 3000 → K (-2) m3) ∧ (3000 < m3 113 37 → K (-3) m3))))))) ∧ (v1 < μ 113 21 → (¬ v1 = μ 114 22 → ((0 : Int) ≤ v1 ∧ v1 < 30) ∧ (z_I (v1 + 1) ∧ (z_ri m_X12_seek 34 [some (2, 113), some (0, v1 + 1), none] (z_st μ 139 v1 0) (d + 1) K))) ∧ (v1 = μ 114 22 → ((0 : Int) ≤ v1 ∧ v1 < 30) ∧ (z_I (v1 + 1) ∧ (z_ri m_X12_seek 34 [some (2, 113), some (0, v1 + 1), none] (z_st μ 139 v1 1) (d + 1) K))))) : z_ri m_X12_seek 34 [some (2, 113), some (0, v1), none] μ (d + 1) K := by
  show z_R m_X12_seek 34 [some (2, 113), some (0, v1), none] [] z_n μ (d + 1) _
  refine z_iload_n dX12_seek_34 rfl ?_
  refine z_aload_n dX12_seek_35 rfl ?_
  refine n_getf (ji := 21) (t := 0) dX12_seek_36 zf_X12_205 k_113 rfl (by decide) rfl ?_
  refine z_icmp_ge (tgt := 70) dX12_seek_39 (by decide) (fun q1 => ?_) (fun q2 => ?_)
  · refine z_aload_n dX12_seek_70 rfl ?_
    refine n_getp (ji := 29) dX12_seek_71 zf_X12_75 k_113 rfl (by decide) rfl p_113_29 ?_
    refine z_aload_n dX12_seek_74 rfl ?_
    refine n_getp (ji := 0) dX12_seek_75 zf_X12_9 k_113 rfl (by decide) rfl p_113_0 ?_
    refine z_bipush dX12_seek_78 (by decide) ?_
    refine n_iald dX12_seek_80 k_114 (by decide) ?_
    refine z_iconst dX12_seek_81 ⟨by decide, by decide⟩ ?_
    refine n_iast dX12_seek_82 k_135 (h.1 q1).1 ?_
    refine z_aload_n dX12_seek_83 rfl ?_
    refine n_getp (ji := 30) dX12_seek_84 zf_X12_78 k_113 rfl (by decide) rfl p_113_30 ?_
    refine z_aload_n dX12_seek_87 rfl ?_
    refine n_getp (ji := 0) dX12_seek_88 zf_X12_9 k_113 rfl (by decide) rfl p_113_0 ?_
    refine z_bipush dX12_seek_91 (by decide) ?_
    refine n_iald dX12_seek_93 k_114 (by decide) ?_
    refine z_iconst dX12_seek_94 ⟨by decide, by decide⟩ ?_
    refine n_iast dX12_seek_95 k_136 (h.1 q1).2.1 ?_
    refine z_aload_n dX12_seek_96 rfl ?_
    refine n_getp (ji := 31) dX12_seek_97 zf_X12_81 k_113 rfl (by decide) rfl p_113_31 ?_
    refine z_aload_n dX12_seek_100 rfl ?_
    refine n_getp (ji := 0) dX12_seek_101 zf_X12_9 k_113 rfl (by decide) rfl p_113_0 ?_
    refine z_bipush dX12_seek_104 (by decide) ?_
    refine n_iald dX12_seek_106 k_114 (by decide) ?_
    refine z_iconst dX12_seek_107 ⟨by decide, by decide⟩ ?_
    refine n_iast dX12_seek_108 k_137 (h.1 q1).2.2.1 ?_
    refine z_aload_n dX12_seek_109 rfl ?_
    refine z_iconst dX12_seek_110 ⟨by decide, by decide⟩ ?_
    refine n_putI (ji := 38) dX12_seek_111 zf_X12_339 k_113 rfl (by decide) rfl ?_
    refine z_aload_n dX12_seek_114 rfl ?_
    refine z_iconst dX12_seek_115 ⟨by decide, by decide⟩ ?_
    refine n_putI (ji := 37) dX12_seek_116 zf_X12_336 k_113 rfl (by decide) rfl ?_
    refine z_aload_n dX12_seek_119 rfl ?_
    refine n_vI (as := []) (rest := []) dX12_seek_120 zm_X12_finds zs_X12_348 k_113 (by decide) rfl rfl (Nat.le_of_ble_eq_true rfl) (Nat.le_of_ble_eq_true rfl) (h.1 q1).2.2.2 (fun x5 m3 h4 => ?_)
    refine n_istore_n (lo' := [some (2, 113), some (0, x5), none]) dX12_seek_123 ⟨Nat.le_of_ble_eq_true rfl, Nat.le_of_ble_eq_true rfl⟩ rfl ?_
    refine z_iload_n dX12_seek_124 rfl ?_
    refine z_if_ne (tgt := 146) dX12_seek_125 (by decide) (fun q6 => ?_) (fun q7 => ?_)
    · refine z_aload_n dX12_seek_146 rfl ?_
      refine n_vN (as := []) (rest := []) dX12_seek_147 zm_X12_keepsPast zs_X12_275 k_113 (by decide) rfl rfl (Nat.le_of_ble_eq_true rfl) (Nat.le_of_ble_eq_true rfl) (h4.1 q6) (fun m8 h9 => ?_)
      refine z_iconst dX12_seek_150 ⟨by decide, by decide⟩ ?_
      refine n_istore_n (lo' := [some (2, 113), some (0, x5), some (0, 0)]) dX12_seek_151 ⟨Nat.le_of_ble_eq_true rfl, Nat.le_of_ble_eq_true rfl⟩ rfl ?_
      refine z_drop [some (2, 113), none, some (0, 0)] ⟨rfl, rfl, trivial⟩ ?_
      exact h9
    · refine z_aload_n dX12_seek_128 rfl ?_
      refine n_getf (ji := 37) (t := 0) dX12_seek_129 zf_X12_336 k_113 rfl (by decide) rfl ?_
      refine z_sipush dX12_seek_132 (by decide) ?_
      refine z_icmp_le (tgt := 143) dX12_seek_135 (by decide) (fun q10 => ?_) (fun q11 => ?_)
      · refine z_bipush dX12_seek_143 (by decide) ?_
        exact z_ireturn dX12_seek_145 rfl rfl ⟨_, rfl, ((h4.2 q7).1 q10)⟩
      · refine z_bipush dX12_seek_138 (by decide) ?_
        refine z_goto (tgt := 145) dX12_seek_140 (by decide) ?_
        exact z_ireturn dX12_seek_145 rfl rfl ⟨_, rfl, ((h4.2 q7).2 q11)⟩
  · refine z_aload_n dX12_seek_42 rfl ?_
    refine n_getp (ji := 36) dX12_seek_43 zf_X12_87 k_113 rfl (by decide) rfl p_113_36 ?_
    refine z_iload_n dX12_seek_46 rfl ?_
    refine z_iload_n dX12_seek_47 rfl ?_
    refine z_aload_n dX12_seek_48 rfl ?_
    refine n_getp (ji := 0) dX12_seek_49 zf_X12_9 k_113 rfl (by decide) rfl p_113_0 ?_
    refine z_bipush dX12_seek_52 (by decide) ?_
    refine n_iald dX12_seek_54 k_114 (by decide) ?_
    refine z_icmp_ne (tgt := 62) dX12_seek_55 (by decide) (fun q12 => ?_) (fun q13 => ?_)
    · refine z_iconst dX12_seek_62 ⟨by decide, by decide⟩ ?_
      refine n_zast dX12_seek_63 k_139 ((h.2 q2).1 q12).1 (by decide) ?_
      refine n_iinc (lo' := [some (2, 113), some (0, v1 + 1), none]) dX12_seek_64 rfl (by decide) ((h.2 q2).1 q12).2.1 rfl ?_
      refine z_goto (tgt := 34) dX12_seek_67 (by decide) ?_
      refine z_drop [some (2, 113), some (0, v1 + 1), none] ⟨rfl, rfl, trivial⟩ ?_
      exact ((h.2 q2).1 q12).2.2
    · refine z_iconst dX12_seek_58 ⟨by decide, by decide⟩ ?_
      refine z_goto (tgt := 63) dX12_seek_59 (by decide) ?_
      refine n_zast dX12_seek_63 k_139 ((h.2 q2).2 q13).1 (by decide) ?_
      refine n_iinc (lo' := [some (2, 113), some (0, v1 + 1), none]) dX12_seek_64 rfl (by decide) ((h.2 q2).2 q13).2.1 rfl ?_
      refine z_goto (tgt := 34) dX12_seek_67 (by decide) ?_
      refine z_drop [some (2, 113), some (0, v1 + 1), none] ⟨rfl, rfl, trivial⟩ ?_
      exact ((h.2 q2).2 q13).2.2
set_option maxRecDepth 20000 in
theorem V_X12_seek_152 {v2 : Int}  {μ : z_Mem} {d : Nat} {K : Int → z_Mem → Prop} (h : (μ 113 22 ≤ v2 → K (μ 113 37) μ) ∧ (v2 < μ 113 22 → z_I (23 + v2) ∧ (((0 : Int) ≤ v2 ∧ v2 < 60) ∧ ((¬ μ 138 v2 = 1 → z_ci m_X12_truth [(0, 0)] μ d (fun x7 m5 => ((0 : Int) ≤ 23 + v2 ∧ 23 + v2 < 143) ∧ (z_I (v2 + 1) ∧ (z_ri m_X12_seek 152 [some (2, 113), none, some (0, v2 + 1)] (z_st m5 114 (23 + v2) x7) (d + 1) K)))) ∧ (μ 138 v2 = 1 → z_ci m_X12_truth [(0, 1)] μ d (fun x10 m8 => ((0 : Int) ≤ 23 + v2 ∧ 23 + v2 < 143) ∧ (z_I (v2 + 1) ∧ (z_ri m_X12_seek 152 [some (2, 113), none, some (0, v2 + 1)] (z_st m8 114 (23 + v2) x10) (d + 1) K)))))))) : z_ri m_X12_seek 152 [some (2, 113), none, some (0, v2)] μ (d + 1) K := by
  show z_R m_X12_seek 152 [some (2, 113), none, some (0, v2)] [] z_n μ (d + 1) _
  refine z_iload_n dX12_seek_152 rfl ?_
  refine z_aload_n dX12_seek_153 rfl ?_
  refine n_getf (ji := 22) (t := 0) dX12_seek_154 zf_X12_245 k_113 rfl (by decide) rfl ?_
  refine z_icmp_ge (tgt := 193) dX12_seek_157 (by decide) (fun q1 => ?_) (fun q2 => ?_)
  · refine z_aload_n dX12_seek_193 rfl ?_
    refine n_getf (ji := 37) (t := 0) dX12_seek_194 zf_X12_336 k_113 rfl (by decide) rfl ?_
    exact z_ireturn dX12_seek_197 rfl rfl ⟨_, rfl, (h.1 q1)⟩
  · refine z_aload_n dX12_seek_160 rfl ?_
    refine n_getp (ji := 0) dX12_seek_161 zf_X12_9 k_113 rfl (by decide) rfl p_113_0 ?_
    refine z_bipush dX12_seek_164 (by decide) ?_
    refine z_iload_n dX12_seek_166 rfl ?_
    refine z_iadd dX12_seek_167 (h.2 q2).1 ?_
    refine z_aload_n dX12_seek_168 rfl ?_
    refine n_getp (ji := 35) dX12_seek_169 zf_X12_84 k_113 rfl (by decide) rfl p_113_35 ?_
    refine z_iload_n dX12_seek_172 rfl ?_
    refine n_iald dX12_seek_173 k_138 (h.2 q2).2.1 ?_
    refine z_iconst dX12_seek_174 ⟨by decide, by decide⟩ ?_
    refine z_icmp_ne (tgt := 182) dX12_seek_175 (by decide) (fun q3 => ?_) (fun q4 => ?_)
    · refine z_iconst dX12_seek_182 ⟨by decide, by decide⟩ ?_
      refine n_sI (as := [(0, 0)]) (rest := [(0, 23 + v2), (2, 114)]) dX12_seek_183 zm_X12_truth zs_X12_185 rfl rfl (Nat.le_of_ble_eq_true rfl) (Nat.le_of_ble_eq_true rfl) ((h.2 q2).2.2.1 q3) (fun x7 m5 h6 => ?_)
      refine n_iast dX12_seek_186 k_114 h6.1 ?_
      refine n_iinc (lo' := [some (2, 113), none, some (0, v2 + 1)]) dX12_seek_187 rfl (by decide) h6.2.1 rfl ?_
      refine z_goto (tgt := 152) dX12_seek_190 (by decide) ?_
      refine z_drop [some (2, 113), none, some (0, v2 + 1)] ⟨rfl, rfl, trivial⟩ ?_
      exact h6.2.2
    · refine z_iconst dX12_seek_178 ⟨by decide, by decide⟩ ?_
      refine z_goto (tgt := 183) dX12_seek_179 (by decide) ?_
      refine n_sI (as := [(0, 1)]) (rest := [(0, 23 + v2), (2, 114)]) dX12_seek_183 zm_X12_truth zs_X12_185 rfl rfl (Nat.le_of_ble_eq_true rfl) (Nat.le_of_ble_eq_true rfl) ((h.2 q2).2.2.2 q4) (fun x10 m8 h9 => ?_)
      refine n_iast dX12_seek_186 k_114 h9.1 ?_
      refine n_iinc (lo' := [some (2, 113), none, some (0, v2 + 1)]) dX12_seek_187 rfl (by decide) h9.2.1 rfl ?_
      refine z_goto (tgt := 152) dX12_seek_190 (by decide) ?_
      refine z_drop [some (2, 113), none, some (0, v2 + 1)] ⟨rfl, rfl, trivial⟩ ?_
      exact h9.2.2
set_option maxRecDepth 20000 in
theorem V_X12_face {a b : Int}  {μ : z_Mem} {d : Nat} {K : Int → z_Mem → Prop} (h : z_ci m_X12_isFace [(2, 113), (0, a)] μ d (fun x3 m1 => (x3 = 0 → K (-1) m1) ∧ (¬ x3 = 0 → z_ci m_X12_in [(1, b), (1, 0), (1, 3)] m1 d (fun x8 m6 => (¬ x8 = 0 → (2 ≤ b → (¬ b = 3 → z_ri m_X12_face 73 [some (2, 113), some (0, a), none, some (0, 0), some (0, 0)] m6 (d + 1) K) ∧ (b = 3 → z_ci m_X12_areJoined [(2, 113), (0, m6 114 22), (0, a)] m6 d (fun x17 m15 => z_ci m_X12_truth [(0, x17)] m15 d (fun x20 m18 => K x20 m18)))) ∧ (b < 2 → (¬ b = 0 → ((0 : Int) ≤ a ∧ a < 30) ∧ (K (m6 122 a) m6)) ∧ (b = 0 → ((0 : Int) ≤ a ∧ a < 30) ∧ (K (m6 121 a) m6)))) ∧ (x8 = 0 → K (-1) m6))))) : z_ci m_X12_face [(2, 113), (0, a), (0, b)] μ (d + 1) K := by
  show z_R m_X12_face 0 [some (2, 113), some (0, a), some (0, b), none, none] [] z_n μ (d + 1) _
  refine z_aload_n dX12_face_0 rfl ?_
  refine z_iload_n dX12_face_1 rfl ?_
  refine n_vI (as := [(0, a)]) (rest := []) dX12_face_2 zm_X12_isFace zs_X12_278 k_113 (by decide) rfl rfl (Nat.le_of_ble_eq_true rfl) (Nat.le_of_ble_eq_true rfl) h (fun x3 m1 h2 => ?_)
  refine z_if_eq (tgt := 20) dX12_face_5 (by decide) (fun q4 => ?_) (fun q5 => ?_)
  · refine z_iconst dX12_face_20 ⟨by decide, by decide⟩ ?_
    exact z_ireturn dX12_face_21 rfl rfl ⟨_, rfl, (h2.1 q4)⟩
  · refine z_iload_n dX12_face_8 rfl ?_
    refine z_i2l_ dX12_face_9 ?_
    refine z_lconst0 dX12_face_10 ?_
    refine z_ldc2 (n := 3) dX12_face_11 zc_1631 ⟨by decide, by decide⟩ ?_
    refine n_sI (as := [(1, b), (1, 0), (1, 3)]) (rest := []) dX12_face_14 zm_X12_in zs_X12_143 rfl rfl (Nat.le_of_ble_eq_true rfl) (Nat.le_of_ble_eq_true rfl) (h2.2 q5) (fun x8 m6 h7 => ?_)
    refine z_if_ne (tgt := 22) dX12_face_17 (by decide) (fun q9 => ?_) (fun q10 => ?_)
    · refine z_iload_n dX12_face_22 rfl ?_
      refine z_iconst dX12_face_23 ⟨by decide, by decide⟩ ?_
      refine z_icmp_ge (tgt := 47) dX12_face_24 (by decide) (fun q11 => ?_) (fun q12 => ?_)
      · refine z_iload_n dX12_face_47 rfl ?_
        refine z_iconst dX12_face_48 ⟨by decide, by decide⟩ ?_
        refine z_icmp_ne (tgt := 68) dX12_face_49 (by decide) (fun q13 => ?_) (fun q14 => ?_)
        · refine z_iconst dX12_face_68 ⟨by decide, by decide⟩ ?_
          refine n_istore_n (lo' := [some (2, 113), some (0, a), some (0, b), some (0, 0), none]) dX12_face_69 ⟨Nat.le_of_ble_eq_true rfl, Nat.le_of_ble_eq_true rfl⟩ rfl ?_
          refine z_iconst dX12_face_70 ⟨by decide, by decide⟩ ?_
          refine n_istore (lo' := [some (2, 113), some (0, a), some (0, b), some (0, 0), some (0, 0)]) dX12_face_71 ⟨Nat.le_of_ble_eq_true rfl, Nat.le_of_ble_eq_true rfl⟩ rfl ?_
          refine z_drop [some (2, 113), some (0, a), none, some (0, 0), some (0, 0)] ⟨rfl, rfl, rfl, rfl, trivial⟩ ?_
          exact (((h7.1 q9).1 q11).1 q13)
        · refine z_aload_n dX12_face_52 rfl ?_
          refine z_aload_n dX12_face_53 rfl ?_
          refine n_getp (ji := 0) dX12_face_54 zf_X12_9 k_113 rfl (by decide) rfl p_113_0 ?_
          refine z_bipush dX12_face_57 (by decide) ?_
          refine n_iald dX12_face_59 k_114 (by decide) ?_
          refine z_iload_n dX12_face_60 rfl ?_
          refine n_vI (as := [(0, m6 114 22), (0, a)]) (rest := []) dX12_face_61 zm_X12_areJoined zs_X12_272 k_113 (by decide) rfl rfl (Nat.le_of_ble_eq_true rfl) (Nat.le_of_ble_eq_true rfl) (((h7.1 q9).1 q11).2 q14) (fun x17 m15 h16 => ?_)
          refine n_sI (as := [(0, x17)]) (rest := []) dX12_face_64 zm_X12_truth zs_X12_185 rfl rfl (Nat.le_of_ble_eq_true rfl) (Nat.le_of_ble_eq_true rfl) h16 (fun x20 m18 h19 => ?_)
          exact z_ireturn dX12_face_67 rfl rfl ⟨_, rfl, h19⟩
      · refine z_iload_n dX12_face_27 rfl ?_
        refine z_if_ne (tgt := 40) dX12_face_28 (by decide) (fun q21 => ?_) (fun q22 => ?_)
        · refine z_aload_n dX12_face_40 rfl ?_
          refine n_getp (ji := 13) dX12_face_41 zf_X12_36 k_113 rfl (by decide) rfl p_113_13 ?_
          refine z_iload_n dX12_face_44 rfl ?_
          refine n_iald dX12_face_45 k_122 (((h7.1 q9).2 q12).1 q21).1 ?_
          exact z_ireturn dX12_face_46 rfl rfl ⟨_, rfl, (((h7.1 q9).2 q12).1 q21).2⟩
        · refine z_aload_n dX12_face_31 rfl ?_
          refine n_getp (ji := 12) dX12_face_32 zf_X12_33 k_113 rfl (by decide) rfl p_113_12 ?_
          refine z_iload_n dX12_face_35 rfl ?_
          refine n_iald dX12_face_36 k_121 (((h7.1 q9).2 q12).2 q22).1 ?_
          refine z_goto (tgt := 46) dX12_face_37 (by decide) ?_
          exact z_ireturn dX12_face_46 rfl rfl ⟨_, rfl, (((h7.1 q9).2 q12).2 q22).2⟩
    · refine z_iconst dX12_face_20 ⟨by decide, by decide⟩ ?_
      exact z_ireturn dX12_face_21 rfl rfl ⟨_, rfl, (h7.2 q10)⟩
set_option maxRecDepth 20000 in
theorem V_X12_face_73 {v1 v3 v4 : Int}  {μ : z_Mem} {d : Nat} {K : Int → z_Mem → Prop} (h : (4 ≤ v4 → K v3 μ) ∧ (v4 < 4 → z_I (4 * v1) ∧ (z_I ((4 * v1) + v4) ∧ (((0 : Int) ≤ (4 * v1) + v4 ∧ (4 * v1) + v4 < 120) ∧ (z_ci m_X12_isHinge [(2, 113), (0, μ 126 ((4 * v1) + v4))] μ d (fun x5 m3 => z_ci m_X12_truth [(0, x5)] m3 d (fun x8 m6 => z_I (v3 + x8) ∧ (z_I (v4 + 1) ∧ (z_ri m_X12_face 73 [some (2, 113), some (0, v1), none, some (0, v3 + x8), some (0, v4 + 1)] m6 (d + 1) K))))))))) : z_ri m_X12_face 73 [some (2, 113), some (0, v1), none, some (0, v3), some (0, v4)] μ (d + 1) K := by
  show z_R m_X12_face 73 [some (2, 113), some (0, v1), none, some (0, v3), some (0, v4)] [] z_n μ (d + 1) _
  refine z_iload dX12_face_73 rfl ?_
  refine z_iconst dX12_face_75 ⟨by decide, by decide⟩ ?_
  refine z_icmp_ge (tgt := 106) dX12_face_76 (by decide) (fun q1 => ?_) (fun q2 => ?_)
  · refine z_iload_n dX12_face_106 rfl ?_
    exact z_ireturn dX12_face_107 rfl rfl ⟨_, rfl, (h.1 q1)⟩
  · refine z_iload_n dX12_face_79 rfl ?_
    refine z_aload_n dX12_face_80 rfl ?_
    refine z_aload_n dX12_face_81 rfl ?_
    refine n_getp (ji := 17) dX12_face_82 zf_X12_48 k_113 rfl (by decide) rfl p_113_17 ?_
    refine z_iconst dX12_face_85 ⟨by decide, by decide⟩ ?_
    refine z_iload_n dX12_face_86 rfl ?_
    refine z_imul dX12_face_87 (h.2 q2).1 ?_
    refine z_iload dX12_face_88 rfl ?_
    refine z_iadd dX12_face_90 (h.2 q2).2.1 ?_
    refine n_iald dX12_face_91 k_126 (h.2 q2).2.2.1 ?_
    refine n_vI (as := [(0, μ 126 ((4 * v1) + v4))]) (rest := [(0, v3)]) dX12_face_92 zm_X12_isHinge zs_X12_257 k_113 (by decide) rfl rfl (Nat.le_of_ble_eq_true rfl) (Nat.le_of_ble_eq_true rfl) (h.2 q2).2.2.2 (fun x5 m3 h4 => ?_)
    refine n_sI (as := [(0, x5)]) (rest := [(0, v3)]) dX12_face_95 zm_X12_truth zs_X12_185 rfl rfl (Nat.le_of_ble_eq_true rfl) (Nat.le_of_ble_eq_true rfl) h4 (fun x8 m6 h7 => ?_)
    refine z_iadd dX12_face_98 h7.1 ?_
    refine n_istore_n (lo' := [some (2, 113), some (0, v1), none, some (0, v3 + x8), some (0, v4)]) dX12_face_99 ⟨Nat.le_of_ble_eq_true rfl, Nat.le_of_ble_eq_true rfl⟩ rfl ?_
    refine n_iinc (lo' := [some (2, 113), some (0, v1), none, some (0, v3 + x8), some (0, v4 + 1)]) dX12_face_100 rfl (by decide) h7.2.1 rfl ?_
    refine z_goto (tgt := 73) dX12_face_103 (by decide) ?_
    refine z_drop [some (2, 113), some (0, v1), none, some (0, v3 + x8), some (0, v4 + 1)] ⟨rfl, rfl, rfl, rfl, trivial⟩ ?_
    exact h7.2.2
set_option maxRecDepth 20000 in
theorem V_X12_side {a b c : Int}  {μ : z_Mem} {d : Nat} {K : Int → z_Mem → Prop} (h : z_ci m_X12_isFace [(2, 113), (0, a)] μ d (fun x3 m1 => (x3 = 0 → K (-1) m1) ∧ (¬ x3 = 0 → z_ci m_X12_in [(1, b), (1, 0), (1, 3)] m1 d (fun x8 m6 => (x8 = 0 → K (-1) m6) ∧ (¬ x8 = 0 → z_ci m_X12_in [(1, c), (1, 0), (1, 2)] m6 d (fun x13 m11 => (¬ x13 = 0 → z_I (4 * a) ∧ (z_I ((4 * a) + b) ∧ ((¬ c = 0 → (¬ c = 1 → ((0 : Int) ≤ (4 * a) + b ∧ (4 * a) + b < 120) ∧ (K (m11 124 ((4 * a) + b)) m11)) ∧ (c = 1 → ((0 : Int) ≤ (4 * a) + b ∧ (4 * a) + b < 120) ∧ (K (m11 123 ((4 * a) + b)) m11))) ∧ (c = 0 → ((0 : Int) ≤ (4 * a) + b ∧ (4 * a) + b < 120) ∧ (K (m11 126 ((4 * a) + b)) m11))))) ∧ (x13 = 0 → K (-1) m11))))))) : z_ci m_X12_side [(2, 113), (0, a), (0, b), (0, c)] μ (d + 1) K := by
  show z_R m_X12_side 0 [some (2, 113), some (0, a), some (0, b), some (0, c), none] [] z_n μ (d + 1) _
  refine z_aload_n dX12_side_0 rfl ?_
  refine z_iload_n dX12_side_1 rfl ?_
  refine n_vI (as := [(0, a)]) (rest := []) dX12_side_2 zm_X12_isFace zs_X12_278 k_113 (by decide) rfl rfl (Nat.le_of_ble_eq_true rfl) (Nat.le_of_ble_eq_true rfl) h (fun x3 m1 h2 => ?_)
  refine z_if_eq (tgt := 32) dX12_side_5 (by decide) (fun q4 => ?_) (fun q5 => ?_)
  · refine z_iconst dX12_side_32 ⟨by decide, by decide⟩ ?_
    exact z_ireturn dX12_side_33 rfl rfl ⟨_, rfl, (h2.1 q4)⟩
  · refine z_iload_n dX12_side_8 rfl ?_
    refine z_i2l_ dX12_side_9 ?_
    refine z_lconst0 dX12_side_10 ?_
    refine z_ldc2 (n := 3) dX12_side_11 zc_1631 ⟨by decide, by decide⟩ ?_
    refine n_sI (as := [(1, b), (1, 0), (1, 3)]) (rest := []) dX12_side_14 zm_X12_in zs_X12_143 rfl rfl (Nat.le_of_ble_eq_true rfl) (Nat.le_of_ble_eq_true rfl) (h2.2 q5) (fun x8 m6 h7 => ?_)
    refine z_if_eq (tgt := 32) dX12_side_17 (by decide) (fun q9 => ?_) (fun q10 => ?_)
    · refine z_iconst dX12_side_32 ⟨by decide, by decide⟩ ?_
      exact z_ireturn dX12_side_33 rfl rfl ⟨_, rfl, (h7.1 q9)⟩
    · refine z_iload_n dX12_side_20 rfl ?_
      refine z_i2l_ dX12_side_21 ?_
      refine z_lconst0 dX12_side_22 ?_
      refine z_ldc2 (n := 2) dX12_side_23 zc_1610 ⟨by decide, by decide⟩ ?_
      refine n_sI (as := [(1, c), (1, 0), (1, 2)]) (rest := []) dX12_side_26 zm_X12_in zs_X12_143 rfl rfl (Nat.le_of_ble_eq_true rfl) (Nat.le_of_ble_eq_true rfl) (h7.2 q10) (fun x13 m11 h12 => ?_)
      refine z_if_ne (tgt := 34) dX12_side_29 (by decide) (fun q14 => ?_) (fun q15 => ?_)
      · refine z_iconst dX12_side_34 ⟨by decide, by decide⟩ ?_
        refine z_iload_n dX12_side_35 rfl ?_
        refine z_imul dX12_side_36 (h12.1 q14).1 ?_
        refine z_iload_n dX12_side_37 rfl ?_
        refine z_iadd dX12_side_38 (h12.1 q14).2.1 ?_
        refine n_istore (lo' := [some (2, 113), some (0, a), some (0, b), some (0, c), some (0, (4 * a) + b)]) dX12_side_39 ⟨Nat.le_of_ble_eq_true rfl, Nat.le_of_ble_eq_true rfl⟩ rfl ?_
        refine z_iload_n dX12_side_41 rfl ?_
        refine z_if_ne (tgt := 55) dX12_side_42 (by decide) (fun q16 => ?_) (fun q17 => ?_)
        · refine z_iload_n dX12_side_55 rfl ?_
          refine z_iconst dX12_side_56 ⟨by decide, by decide⟩ ?_
          refine z_icmp_ne (tgt := 70) dX12_side_57 (by decide) (fun q18 => ?_) (fun q19 => ?_)
          · refine z_aload_n dX12_side_70 rfl ?_
            refine n_getp (ji := 15) dX12_side_71 zf_X12_42 k_113 rfl (by decide) rfl p_113_15 ?_
            refine z_iload dX12_side_74 rfl ?_
            refine n_iald dX12_side_76 k_124 (((h12.1 q14).2.2.1 q16).1 q18).1 ?_
            exact z_ireturn dX12_side_77 rfl rfl ⟨_, rfl, (((h12.1 q14).2.2.1 q16).1 q18).2⟩
          · refine z_aload_n dX12_side_60 rfl ?_
            refine n_getp (ji := 14) dX12_side_61 zf_X12_39 k_113 rfl (by decide) rfl p_113_14 ?_
            refine z_iload dX12_side_64 rfl ?_
            refine n_iald dX12_side_66 k_123 (((h12.1 q14).2.2.1 q16).2 q19).1 ?_
            refine z_goto (tgt := 77) dX12_side_67 (by decide) ?_
            exact z_ireturn dX12_side_77 rfl rfl ⟨_, rfl, (((h12.1 q14).2.2.1 q16).2 q19).2⟩
        · refine z_aload_n dX12_side_45 rfl ?_
          refine n_getp (ji := 17) dX12_side_46 zf_X12_48 k_113 rfl (by decide) rfl p_113_17 ?_
          refine z_iload dX12_side_49 rfl ?_
          refine n_iald dX12_side_51 k_126 ((h12.1 q14).2.2.2 q17).1 ?_
          refine z_goto (tgt := 77) dX12_side_52 (by decide) ?_
          exact z_ireturn dX12_side_77 rfl rfl ⟨_, rfl, ((h12.1 q14).2.2.2 q17).2⟩
      · refine z_iconst dX12_side_32 ⟨by decide, by decide⟩ ?_
        exact z_ireturn dX12_side_33 rfl rfl ⟨_, rfl, (h12.2 q15)⟩
set_option maxRecDepth 20000 in
theorem V_X12_edge {a b : Int}  {μ : z_Mem} {d : Nat} {K : Int → z_Mem → Prop} (h : z_ci m_X12_isEdge [(2, 113), (0, a)] μ d (fun x3 m1 => (¬ x3 = 0 → ((0 : Int) ≤ a ∧ a < 60) ∧ ((b = 0 → ((0 : Int) ≤ m1 127 a) ∧ (K ((m1 127 a) / 4) m1)) ∧ (b = 1 → ((0 : Int) ≤ m1 127 a ∧ m1 127 a < 120) ∧ (K (m1 123 (m1 127 a)) m1)) ∧ (b = 2 → ((0 : Int) ≤ m1 127 a) ∧ (K ((m1 127 a) % 4) m1)) ∧ (b = 3 → ((0 : Int) ≤ m1 127 a ∧ m1 127 a < 120) ∧ (K (m1 124 (m1 127 a)) m1)) ∧ (b = 4 → ((0 : Int) ≤ m1 127 a ∧ m1 127 a < 120) ∧ (K (m1 125 (m1 127 a)) m1)) ∧ (b = 5 → z_I (83 + a) ∧ (((0 : Int) ≤ 83 + a ∧ 83 + a < 143) ∧ (K (m1 114 (83 + a)) m1))) ∧ (b = 6 → z_I (23 + a) ∧ (((0 : Int) ≤ 23 + a ∧ 23 + a < 143) ∧ (K (m1 114 (23 + a)) m1))) ∧ (b = 7 → z_ci m_X12_places [(2, 113)] m1 d (fun x12 m10 => z_ci m_X12_isFree [(2, 113), (0, a)] m10 d (fun x15 m13 => z_ci m_X12_truth [(0, x15)] m13 d (fun x18 m16 => K x18 m16)))) ∧ (b < 0 ∨ 7 < b → K (-1) m1))) ∧ (x3 = 0 → K (-1) m1))) : z_ci m_X12_edge [(2, 113), (0, a), (0, b)] μ (d + 1) K := by
  show z_R m_X12_edge 0 [some (2, 113), some (0, a), some (0, b), none] [] z_n μ (d + 1) _
  refine z_aload_n dX12_edge_0 rfl ?_
  refine z_iload_n dX12_edge_1 rfl ?_
  refine n_vI (as := [(0, a)]) (rest := []) dX12_edge_2 zm_X12_isEdge zs_X12_263 k_113 (by decide) rfl rfl (Nat.le_of_ble_eq_true rfl) (Nat.le_of_ble_eq_true rfl) h (fun x3 m1 h2 => ?_)
  refine z_if_ne (tgt := 10) dX12_edge_5 (by decide) (fun q4 => ?_) (fun q5 => ?_)
  · refine z_aload_n dX12_edge_10 rfl ?_
    refine n_getp (ji := 18) dX12_edge_11 zf_X12_51 k_113 rfl (by decide) rfl p_113_18 ?_
    refine z_iload_n dX12_edge_14 rfl ?_
    refine n_iald dX12_edge_15 k_127 (h2.1 q4).1 ?_
    refine n_istore_n (lo' := [some (2, 113), some (0, a), some (0, b), some (0, m1 127 a)]) dX12_edge_16 ⟨Nat.le_of_ble_eq_true rfl, Nat.le_of_ble_eq_true rfl⟩ rfl ?_
    refine z_iload_n dX12_edge_17 rfl ?_
    refine z_table dX12_edge_18 [64, 68, 75, 79, 86, 93, 103, 113] 127 (by decide) (by decide) (by decide) (fun i6 q7 q8 => ?_) (fun q9 => ?_)
    · match i6, q7, q8 with
      | 0, _, q8 =>
        refine z_iload_n dX12_edge_64 rfl ?_
        refine z_iconst dX12_edge_65 ⟨by decide, by decide⟩ ?_
        refine z_idiv dX12_edge_66 ((h2.1 q4).2.1 (by simpa using q8)).1 (by decide) ?_
        exact z_ireturn dX12_edge_67 rfl rfl ⟨_, rfl, ((h2.1 q4).2.1 (by simpa using q8)).2⟩
      | 1, _, q8 =>
        refine z_aload_n dX12_edge_68 rfl ?_
        refine n_getp (ji := 14) dX12_edge_69 zf_X12_39 k_113 rfl (by decide) rfl p_113_14 ?_
        refine z_iload_n dX12_edge_72 rfl ?_
        refine n_iald dX12_edge_73 k_123 ((h2.1 q4).2.2.1 (by simpa using q8)).1 ?_
        exact z_ireturn dX12_edge_74 rfl rfl ⟨_, rfl, ((h2.1 q4).2.2.1 (by simpa using q8)).2⟩
      | 2, _, q8 =>
        refine z_iload_n dX12_edge_75 rfl ?_
        refine z_iconst dX12_edge_76 ⟨by decide, by decide⟩ ?_
        refine z_irem dX12_edge_77 ((h2.1 q4).2.2.2.1 (by simpa using q8)).1 (by decide) ?_
        exact z_ireturn dX12_edge_78 rfl rfl ⟨_, rfl, ((h2.1 q4).2.2.2.1 (by simpa using q8)).2⟩
      | 3, _, q8 =>
        refine z_aload_n dX12_edge_79 rfl ?_
        refine n_getp (ji := 15) dX12_edge_80 zf_X12_42 k_113 rfl (by decide) rfl p_113_15 ?_
        refine z_iload_n dX12_edge_83 rfl ?_
        refine n_iald dX12_edge_84 k_124 ((h2.1 q4).2.2.2.2.1 (by simpa using q8)).1 ?_
        exact z_ireturn dX12_edge_85 rfl rfl ⟨_, rfl, ((h2.1 q4).2.2.2.2.1 (by simpa using q8)).2⟩
      | 4, _, q8 =>
        refine z_aload_n dX12_edge_86 rfl ?_
        refine n_getp (ji := 16) dX12_edge_87 zf_X12_45 k_113 rfl (by decide) rfl p_113_16 ?_
        refine z_iload_n dX12_edge_90 rfl ?_
        refine n_iald dX12_edge_91 k_125 ((h2.1 q4).2.2.2.2.2.1 (by simpa using q8)).1 ?_
        exact z_ireturn dX12_edge_92 rfl rfl ⟨_, rfl, ((h2.1 q4).2.2.2.2.2.1 (by simpa using q8)).2⟩
      | 5, _, q8 =>
        refine z_aload_n dX12_edge_93 rfl ?_
        refine n_getp (ji := 0) dX12_edge_94 zf_X12_9 k_113 rfl (by decide) rfl p_113_0 ?_
        refine z_bipush dX12_edge_97 (by decide) ?_
        refine z_iload_n dX12_edge_99 rfl ?_
        refine z_iadd dX12_edge_100 ((h2.1 q4).2.2.2.2.2.2.1 (by simpa using q8)).1 ?_
        refine n_iald dX12_edge_101 k_114 ((h2.1 q4).2.2.2.2.2.2.1 (by simpa using q8)).2.1 ?_
        exact z_ireturn dX12_edge_102 rfl rfl ⟨_, rfl, ((h2.1 q4).2.2.2.2.2.2.1 (by simpa using q8)).2.2⟩
      | 6, _, q8 =>
        refine z_aload_n dX12_edge_103 rfl ?_
        refine n_getp (ji := 0) dX12_edge_104 zf_X12_9 k_113 rfl (by decide) rfl p_113_0 ?_
        refine z_bipush dX12_edge_107 (by decide) ?_
        refine z_iload_n dX12_edge_109 rfl ?_
        refine z_iadd dX12_edge_110 ((h2.1 q4).2.2.2.2.2.2.2.1 (by simpa using q8)).1 ?_
        refine n_iald dX12_edge_111 k_114 ((h2.1 q4).2.2.2.2.2.2.2.1 (by simpa using q8)).2.1 ?_
        exact z_ireturn dX12_edge_112 rfl rfl ⟨_, rfl, ((h2.1 q4).2.2.2.2.2.2.2.1 (by simpa using q8)).2.2⟩
      | 7, _, q8 =>
        refine z_aload_n dX12_edge_113 rfl ?_
        refine n_vI (as := []) (rest := []) dX12_edge_114 zm_X12_places zs_X12_304 k_113 (by decide) rfl rfl (Nat.le_of_ble_eq_true rfl) (Nat.le_of_ble_eq_true rfl) ((h2.1 q4).2.2.2.2.2.2.2.2.1 (by simpa using q8)) (fun x12 m10 h11 => ?_)
        refine z_pop dX12_edge_117 rfl ?_
        refine z_aload_n dX12_edge_118 rfl ?_
        refine z_iload_n dX12_edge_119 rfl ?_
        refine n_vI (as := [(0, a)]) (rest := []) dX12_edge_120 zm_X12_isFree zs_X12_353 k_113 (by decide) rfl rfl (Nat.le_of_ble_eq_true rfl) (Nat.le_of_ble_eq_true rfl) h11 (fun x15 m13 h14 => ?_)
        refine n_sI (as := [(0, x15)]) (rest := []) dX12_edge_123 zm_X12_truth zs_X12_185 rfl rfl (Nat.le_of_ble_eq_true rfl) (Nat.le_of_ble_eq_true rfl) h14 (fun x18 m16 h17 => ?_)
        exact z_ireturn dX12_edge_126 rfl rfl ⟨_, rfl, h17⟩
      | i6 + 8, q7, _ => exact absurd q7 (by simp)
    · refine z_iconst dX12_edge_127 ⟨by decide, by decide⟩ ?_
      exact z_ireturn dX12_edge_128 rfl rfl ⟨_, rfl, ((h2.1 q4).2.2.2.2.2.2.2.2.2 q9)⟩
  · refine z_iconst dX12_edge_8 ⟨by decide, by decide⟩ ?_
    exact z_ireturn dX12_edge_9 rfl rfl ⟨_, rfl, (h2.2 q5)⟩
set_option maxRecDepth 20000 in
theorem V_X12_corner {a b c : Int}  {μ : z_Mem} {d : Nat} {K : Int → z_Mem → Prop} (h : z_ci m_X12_isFace [(2, 113), (0, a)] μ d (fun x3 m1 => (x3 = 0 → K (-1) m1) ∧ (¬ x3 = 0 → z_ci m_X12_in [(1, b), (1, 0), (1, 3)] m1 d (fun x8 m6 => (x8 = 0 → K (-1) m6) ∧ (¬ x8 = 0 → z_ci m_X12_in [(1, c), (1, 0), (1, 1)] m6 d (fun x13 m11 => (¬ x13 = 0 → z_I (4 * a) ∧ (z_I ((4 * a) + b) ∧ (((0 : Int) ≤ (4 * a) + b ∧ (4 * a) + b < 120) ∧ ((¬ c = 0 → ((0 : Int) ≤ m11 128 ((4 * a) + b) ∧ m11 128 ((4 * a) + b) < 120) ∧ (K (m11 129 (m11 128 ((4 * a) + b))) m11)) ∧ (c = 0 → K (m11 128 ((4 * a) + b)) m11))))) ∧ (x13 = 0 → K (-1) m11))))))) : z_ci m_X12_corner [(2, 113), (0, a), (0, b), (0, c)] μ (d + 1) K := by
  show z_R m_X12_corner 0 [some (2, 113), some (0, a), some (0, b), some (0, c), none] [] z_n μ (d + 1) _
  refine z_aload_n dX12_corner_0 rfl ?_
  refine z_iload_n dX12_corner_1 rfl ?_
  refine n_vI (as := [(0, a)]) (rest := []) dX12_corner_2 zm_X12_isFace zs_X12_278 k_113 (by decide) rfl rfl (Nat.le_of_ble_eq_true rfl) (Nat.le_of_ble_eq_true rfl) h (fun x3 m1 h2 => ?_)
  refine z_if_eq (tgt := 30) dX12_corner_5 (by decide) (fun q4 => ?_) (fun q5 => ?_)
  · refine z_iconst dX12_corner_30 ⟨by decide, by decide⟩ ?_
    exact z_ireturn dX12_corner_31 rfl rfl ⟨_, rfl, (h2.1 q4)⟩
  · refine z_iload_n dX12_corner_8 rfl ?_
    refine z_i2l_ dX12_corner_9 ?_
    refine z_lconst0 dX12_corner_10 ?_
    refine z_ldc2 (n := 3) dX12_corner_11 zc_1631 ⟨by decide, by decide⟩ ?_
    refine n_sI (as := [(1, b), (1, 0), (1, 3)]) (rest := []) dX12_corner_14 zm_X12_in zs_X12_143 rfl rfl (Nat.le_of_ble_eq_true rfl) (Nat.le_of_ble_eq_true rfl) (h2.2 q5) (fun x8 m6 h7 => ?_)
    refine z_if_eq (tgt := 30) dX12_corner_17 (by decide) (fun q9 => ?_) (fun q10 => ?_)
    · refine z_iconst dX12_corner_30 ⟨by decide, by decide⟩ ?_
      exact z_ireturn dX12_corner_31 rfl rfl ⟨_, rfl, (h7.1 q9)⟩
    · refine z_iload_n dX12_corner_20 rfl ?_
      refine z_i2l_ dX12_corner_21 ?_
      refine z_lconst0 dX12_corner_22 ?_
      refine z_lconst1 dX12_corner_23 ?_
      refine n_sI (as := [(1, c), (1, 0), (1, 1)]) (rest := []) dX12_corner_24 zm_X12_in zs_X12_143 rfl rfl (Nat.le_of_ble_eq_true rfl) (Nat.le_of_ble_eq_true rfl) (h7.2 q10) (fun x13 m11 h12 => ?_)
      refine z_if_ne (tgt := 32) dX12_corner_27 (by decide) (fun q14 => ?_) (fun q15 => ?_)
      · refine z_aload_n dX12_corner_32 rfl ?_
        refine n_getp (ji := 19) dX12_corner_33 zf_X12_54 k_113 rfl (by decide) rfl p_113_19 ?_
        refine z_iconst dX12_corner_36 ⟨by decide, by decide⟩ ?_
        refine z_iload_n dX12_corner_37 rfl ?_
        refine z_imul dX12_corner_38 (h12.1 q14).1 ?_
        refine z_iload_n dX12_corner_39 rfl ?_
        refine z_iadd dX12_corner_40 (h12.1 q14).2.1 ?_
        refine n_iald dX12_corner_41 k_128 (h12.1 q14).2.2.1 ?_
        refine n_istore (lo' := [some (2, 113), some (0, a), some (0, b), some (0, c), some (0, m11 128 ((4 * a) + b))]) dX12_corner_42 ⟨Nat.le_of_ble_eq_true rfl, Nat.le_of_ble_eq_true rfl⟩ rfl ?_
        refine z_iload_n dX12_corner_44 rfl ?_
        refine z_if_ne (tgt := 53) dX12_corner_45 (by decide) (fun q16 => ?_) (fun q17 => ?_)
        · refine z_aload_n dX12_corner_53 rfl ?_
          refine n_getp (ji := 20) dX12_corner_54 zf_X12_57 k_113 rfl (by decide) rfl p_113_20 ?_
          refine z_iload dX12_corner_57 rfl ?_
          refine n_iald dX12_corner_59 k_129 ((h12.1 q14).2.2.2.1 q16).1 ?_
          exact z_ireturn dX12_corner_60 rfl rfl ⟨_, rfl, ((h12.1 q14).2.2.2.1 q16).2⟩
        · refine z_iload dX12_corner_48 rfl ?_
          refine z_goto (tgt := 60) dX12_corner_50 (by decide) ?_
          exact z_ireturn dX12_corner_60 rfl rfl ⟨_, rfl, ((h12.1 q14).2.2.2.2 q17)⟩
      · refine z_iconst dX12_corner_30 ⟨by decide, by decide⟩ ?_
        exact z_ireturn dX12_corner_31 rfl rfl ⟨_, rfl, (h12.2 q15)⟩
set_option maxRecDepth 20000 in
theorem V_X12_cutsAt {a : Int}  {μ : z_Mem} {d : Nat} {K : Int → z_Mem → Prop} (h : z_ri m_X12_cutsAt 4 [some (2, 113), some (0, a), some (0, 0), some (0, 0), none] μ (d + 1) K) : z_ci m_X12_cutsAt [(2, 113), (0, a)] μ (d + 1) K := by
  show z_R m_X12_cutsAt 0 [some (2, 113), some (0, a), none, none, none] [] z_n μ (d + 1) _
  refine z_iconst dX12_cutsAt_0 ⟨by decide, by decide⟩ ?_
  refine n_istore_n (lo' := [some (2, 113), some (0, a), some (0, 0), none, none]) dX12_cutsAt_1 ⟨Nat.le_of_ble_eq_true rfl, Nat.le_of_ble_eq_true rfl⟩ rfl ?_
  refine z_iconst dX12_cutsAt_2 ⟨by decide, by decide⟩ ?_
  refine n_istore_n (lo' := [some (2, 113), some (0, a), some (0, 0), some (0, 0), none]) dX12_cutsAt_3 ⟨Nat.le_of_ble_eq_true rfl, Nat.le_of_ble_eq_true rfl⟩ rfl ?_
  refine z_drop [some (2, 113), some (0, a), some (0, 0), some (0, 0), none] ⟨rfl, rfl, rfl, rfl, trivial⟩ ?_
  exact h
set_option maxRecDepth 20000 in
theorem V_X12_cutsAt_4 {v1 v2 v3 : Int}  {μ : z_Mem} {d : Nat} {K : Int → z_Mem → Prop} (h : (μ 113 22 ≤ v3 → K v2 μ) ∧ (v3 < μ 113 22 → ((0 : Int) ≤ v3 ∧ v3 < 60) ∧ (z_ci m_X12_isHinge [(2, 113), (0, v3)] μ d (fun x5 m3 => (¬ x5 = 0 → z_ci m_X12_truth [(0, 0)] m3 d (fun x10 m8 => z_I (v2 + x10) ∧ (z_I (v3 + 1) ∧ (z_ri m_X12_cutsAt 4 [some (2, 113), some (0, v1), some (0, v2 + x10), some (0, v3 + 1), none] m8 (d + 1) K)))) ∧ (x5 = 0 → ((0 : Int) ≤ μ 127 v3 ∧ μ 127 v3 < 120) ∧ ((m3 128 (μ 127 v3) = v1 → z_ci m_X12_truth [(0, 1)] m3 d (fun x15 m13 => z_I (v2 + x15) ∧ (z_I (v3 + 1) ∧ (z_ri m_X12_cutsAt 4 [some (2, 113), some (0, v1), some (0, v2 + x15), some (0, v3 + 1), none] m13 (d + 1) K)))) ∧ (¬ m3 128 (μ 127 v3) = v1 → ((0 : Int) ≤ μ 127 v3) ∧ (z_I (((μ 127 v3) / 4) * 4) ∧ (z_I ((μ 127 v3) + 3) ∧ (((0 : Int) ≤ (μ 127 v3) + 3) ∧ (z_I ((((μ 127 v3) / 4) * 4) + (((μ 127 v3) + 3) % 4)) ∧ (((0 : Int) ≤ (((μ 127 v3) / 4) * 4) + (((μ 127 v3) + 3) % 4) ∧ (((μ 127 v3) / 4) * 4) + (((μ 127 v3) + 3) % 4) < 120) ∧ ((¬ m3 128 ((((μ 127 v3) / 4) * 4) + (((μ 127 v3) + 3) % 4)) = v1 → z_ci m_X12_truth [(0, 0)] m3 d (fun x20 m18 => z_I (v2 + x20) ∧ (z_I (v3 + 1) ∧ (z_ri m_X12_cutsAt 4 [some (2, 113), some (0, v1), some (0, v2 + x20), some (0, v3 + 1), none] m18 (d + 1) K)))) ∧ (m3 128 ((((μ 127 v3) / 4) * 4) + (((μ 127 v3) + 3) % 4)) = v1 → z_ci m_X12_truth [(0, 1)] m3 d (fun x23 m21 => z_I (v2 + x23) ∧ (z_I (v3 + 1) ∧ (z_ri m_X12_cutsAt 4 [some (2, 113), some (0, v1), some (0, v2 + x23), some (0, v3 + 1), none] m21 (d + 1) K))))))))))))))))) : z_ri m_X12_cutsAt 4 [some (2, 113), some (0, v1), some (0, v2), some (0, v3), none] μ (d + 1) K := by
  show z_R m_X12_cutsAt 4 [some (2, 113), some (0, v1), some (0, v2), some (0, v3), none] [] z_n μ (d + 1) _
  refine z_iload_n dX12_cutsAt_4 rfl ?_
  refine z_aload_n dX12_cutsAt_5 rfl ?_
  refine n_getf (ji := 22) (t := 0) dX12_cutsAt_6 zf_X12_245 k_113 rfl (by decide) rfl ?_
  refine z_icmp_ge (tgt := 78) dX12_cutsAt_9 (by decide) (fun q1 => ?_) (fun q2 => ?_)
  · refine z_iload_n dX12_cutsAt_78 rfl ?_
    exact z_ireturn dX12_cutsAt_79 rfl rfl ⟨_, rfl, (h.1 q1)⟩
  · refine z_aload_n dX12_cutsAt_12 rfl ?_
    refine n_getp (ji := 18) dX12_cutsAt_13 zf_X12_51 k_113 rfl (by decide) rfl p_113_18 ?_
    refine z_iload_n dX12_cutsAt_16 rfl ?_
    refine n_iald dX12_cutsAt_17 k_127 (h.2 q2).1 ?_
    refine n_istore (lo' := [some (2, 113), some (0, v1), some (0, v2), some (0, v3), some (0, μ 127 v3)]) dX12_cutsAt_18 ⟨Nat.le_of_ble_eq_true rfl, Nat.le_of_ble_eq_true rfl⟩ rfl ?_
    refine z_iload_n dX12_cutsAt_20 rfl ?_
    refine z_aload_n dX12_cutsAt_21 rfl ?_
    refine z_iload_n dX12_cutsAt_22 rfl ?_
    refine n_vI (as := [(0, v3)]) (rest := [(0, v2)]) dX12_cutsAt_23 zm_X12_isHinge zs_X12_257 k_113 (by decide) rfl rfl (Nat.le_of_ble_eq_true rfl) (Nat.le_of_ble_eq_true rfl) (h.2 q2).2 (fun x5 m3 h4 => ?_)
    refine z_if_ne (tgt := 66) dX12_cutsAt_26 (by decide) (fun q6 => ?_) (fun q7 => ?_)
    · refine z_iconst dX12_cutsAt_66 ⟨by decide, by decide⟩ ?_
      refine n_sI (as := [(0, 0)]) (rest := [(0, v2)]) dX12_cutsAt_67 zm_X12_truth zs_X12_185 rfl rfl (Nat.le_of_ble_eq_true rfl) (Nat.le_of_ble_eq_true rfl) (h4.1 q6) (fun x10 m8 h9 => ?_)
      refine z_iadd dX12_cutsAt_70 h9.1 ?_
      refine n_istore_n (lo' := [some (2, 113), some (0, v1), some (0, v2 + x10), some (0, v3), some (0, μ 127 v3)]) dX12_cutsAt_71 ⟨Nat.le_of_ble_eq_true rfl, Nat.le_of_ble_eq_true rfl⟩ rfl ?_
      refine n_iinc (lo' := [some (2, 113), some (0, v1), some (0, v2 + x10), some (0, v3 + 1), some (0, μ 127 v3)]) dX12_cutsAt_72 rfl (by decide) h9.2.1 rfl ?_
      refine z_goto (tgt := 4) dX12_cutsAt_75 (by decide) ?_
      refine z_drop [some (2, 113), some (0, v1), some (0, v2 + x10), some (0, v3 + 1), none] ⟨rfl, rfl, rfl, rfl, trivial⟩ ?_
      exact h9.2.2
    · refine z_aload_n dX12_cutsAt_29 rfl ?_
      refine n_getp (ji := 19) dX12_cutsAt_30 zf_X12_54 k_113 rfl (by decide) rfl p_113_19 ?_
      refine z_iload dX12_cutsAt_33 rfl ?_
      refine n_iald dX12_cutsAt_35 k_128 (h4.2 q7).1 ?_
      refine z_iload_n dX12_cutsAt_36 rfl ?_
      refine z_icmp_eq (tgt := 62) dX12_cutsAt_37 (by decide) (fun q11 => ?_) (fun q12 => ?_)
      · refine z_iconst dX12_cutsAt_62 ⟨by decide, by decide⟩ ?_
        refine z_goto (tgt := 67) dX12_cutsAt_63 (by decide) ?_
        refine n_sI (as := [(0, 1)]) (rest := [(0, v2)]) dX12_cutsAt_67 zm_X12_truth zs_X12_185 rfl rfl (Nat.le_of_ble_eq_true rfl) (Nat.le_of_ble_eq_true rfl) ((h4.2 q7).2.1 q11) (fun x15 m13 h14 => ?_)
        refine z_iadd dX12_cutsAt_70 h14.1 ?_
        refine n_istore_n (lo' := [some (2, 113), some (0, v1), some (0, v2 + x15), some (0, v3), some (0, μ 127 v3)]) dX12_cutsAt_71 ⟨Nat.le_of_ble_eq_true rfl, Nat.le_of_ble_eq_true rfl⟩ rfl ?_
        refine n_iinc (lo' := [some (2, 113), some (0, v1), some (0, v2 + x15), some (0, v3 + 1), some (0, μ 127 v3)]) dX12_cutsAt_72 rfl (by decide) h14.2.1 rfl ?_
        refine z_goto (tgt := 4) dX12_cutsAt_75 (by decide) ?_
        refine z_drop [some (2, 113), some (0, v1), some (0, v2 + x15), some (0, v3 + 1), none] ⟨rfl, rfl, rfl, rfl, trivial⟩ ?_
        exact h14.2.2
      · refine z_aload_n dX12_cutsAt_40 rfl ?_
        refine n_getp (ji := 19) dX12_cutsAt_41 zf_X12_54 k_113 rfl (by decide) rfl p_113_19 ?_
        refine z_iload dX12_cutsAt_44 rfl ?_
        refine z_iconst dX12_cutsAt_46 ⟨by decide, by decide⟩ ?_
        refine z_idiv dX12_cutsAt_47 ((h4.2 q7).2.2 q12).1 (by decide) ?_
        refine z_iconst dX12_cutsAt_48 ⟨by decide, by decide⟩ ?_
        refine z_imul dX12_cutsAt_49 ((h4.2 q7).2.2 q12).2.1 ?_
        refine z_iload dX12_cutsAt_50 rfl ?_
        refine z_iconst dX12_cutsAt_52 ⟨by decide, by decide⟩ ?_
        refine z_iadd dX12_cutsAt_53 ((h4.2 q7).2.2 q12).2.2.1 ?_
        refine z_iconst dX12_cutsAt_54 ⟨by decide, by decide⟩ ?_
        refine z_irem dX12_cutsAt_55 ((h4.2 q7).2.2 q12).2.2.2.1 (by decide) ?_
        refine z_iadd dX12_cutsAt_56 ((h4.2 q7).2.2 q12).2.2.2.2.1 ?_
        refine n_iald dX12_cutsAt_57 k_128 ((h4.2 q7).2.2 q12).2.2.2.2.2.1 ?_
        refine z_iload_n dX12_cutsAt_58 rfl ?_
        refine z_icmp_ne (tgt := 66) dX12_cutsAt_59 (by decide) (fun q16 => ?_) (fun q17 => ?_)
        · refine z_iconst dX12_cutsAt_66 ⟨by decide, by decide⟩ ?_
          refine n_sI (as := [(0, 0)]) (rest := [(0, v2)]) dX12_cutsAt_67 zm_X12_truth zs_X12_185 rfl rfl (Nat.le_of_ble_eq_true rfl) (Nat.le_of_ble_eq_true rfl) (((h4.2 q7).2.2 q12).2.2.2.2.2.2.1 q16) (fun x20 m18 h19 => ?_)
          refine z_iadd dX12_cutsAt_70 h19.1 ?_
          refine n_istore_n (lo' := [some (2, 113), some (0, v1), some (0, v2 + x20), some (0, v3), some (0, μ 127 v3)]) dX12_cutsAt_71 ⟨Nat.le_of_ble_eq_true rfl, Nat.le_of_ble_eq_true rfl⟩ rfl ?_
          refine n_iinc (lo' := [some (2, 113), some (0, v1), some (0, v2 + x20), some (0, v3 + 1), some (0, μ 127 v3)]) dX12_cutsAt_72 rfl (by decide) h19.2.1 rfl ?_
          refine z_goto (tgt := 4) dX12_cutsAt_75 (by decide) ?_
          refine z_drop [some (2, 113), some (0, v1), some (0, v2 + x20), some (0, v3 + 1), none] ⟨rfl, rfl, rfl, rfl, trivial⟩ ?_
          exact h19.2.2
        · refine z_iconst dX12_cutsAt_62 ⟨by decide, by decide⟩ ?_
          refine z_goto (tgt := 67) dX12_cutsAt_63 (by decide) ?_
          refine n_sI (as := [(0, 1)]) (rest := [(0, v2)]) dX12_cutsAt_67 zm_X12_truth zs_X12_185 rfl rfl (Nat.le_of_ble_eq_true rfl) (Nat.le_of_ble_eq_true rfl) (((h4.2 q7).2.2 q12).2.2.2.2.2.2.2 q17) (fun x23 m21 h22 => ?_)
          refine z_iadd dX12_cutsAt_70 h22.1 ?_
          refine n_istore_n (lo' := [some (2, 113), some (0, v1), some (0, v2 + x23), some (0, v3), some (0, μ 127 v3)]) dX12_cutsAt_71 ⟨Nat.le_of_ble_eq_true rfl, Nat.le_of_ble_eq_true rfl⟩ rfl ?_
          refine n_iinc (lo' := [some (2, 113), some (0, v1), some (0, v2 + x23), some (0, v3 + 1), some (0, μ 127 v3)]) dX12_cutsAt_72 rfl (by decide) h22.2.1 rfl ?_
          refine z_goto (tgt := 4) dX12_cutsAt_75 (by decide) ?_
          refine z_drop [some (2, 113), some (0, v1), some (0, v2 + x23), some (0, v3 + 1), none] ⟨rfl, rfl, rfl, rfl, trivial⟩ ?_
          exact h22.2.2
set_option maxRecDepth 20000 in
theorem V_X12_vertex {a b : Int}  {μ : z_Mem} {d : Nat} {K : Int → z_Mem → Prop} (h : z_I ((μ 113 23) - 1) ∧ (z_ci m_X12_in [(1, a), (1, 0), (1, (μ 113 23) - 1)] μ d (fun x3 m1 => (x3 = 0 → K (-1) m1) ∧ (¬ x3 = 0 → z_ci m_X12_in [(1, b), (1, 0), (1, 2)] m1 d (fun x8 m6 => (¬ x8 = 0 → (¬ b = 0 → (¬ b = 1 → z_ci m_X12_cutsAt [(2, 113), (0, a)] m6 d (fun x17 m15 => K x17 m15)) ∧ (b = 1 → ((0 : Int) ≤ a ∧ a < 120) ∧ (z_I (4 - (m6 129 a)) ∧ (K (4 - (m6 129 a)) m6)))) ∧ (b = 0 → ((0 : Int) ≤ a ∧ a < 120) ∧ (K (m6 129 a) m6))) ∧ (x8 = 0 → K (-1) m6)))))) : z_ci m_X12_vertex [(2, 113), (0, a), (0, b)] μ (d + 1) K := by
  show z_R m_X12_vertex 0 [some (2, 113), some (0, a), some (0, b)] [] z_n μ (d + 1) _
  refine z_iload_n dX12_vertex_0 rfl ?_
  refine z_i2l_ dX12_vertex_1 ?_
  refine z_lconst0 dX12_vertex_2 ?_
  refine z_aload_n dX12_vertex_3 rfl ?_
  refine n_getf (ji := 23) (t := 0) dX12_vertex_4 zf_X12_251 k_113 rfl (by decide) rfl ?_
  refine z_iconst dX12_vertex_7 ⟨by decide, by decide⟩ ?_
  refine z_isub dX12_vertex_8 h.1 ?_
  refine z_i2l_ dX12_vertex_9 ?_
  refine n_sI (as := [(1, a), (1, 0), (1, (μ 113 23) - 1)]) (rest := []) dX12_vertex_10 zm_X12_in zs_X12_143 rfl rfl (Nat.le_of_ble_eq_true rfl) (Nat.le_of_ble_eq_true rfl) h.2 (fun x3 m1 h2 => ?_)
  refine z_if_eq (tgt := 28) dX12_vertex_13 (by decide) (fun q4 => ?_) (fun q5 => ?_)
  · refine z_iconst dX12_vertex_28 ⟨by decide, by decide⟩ ?_
    exact z_ireturn dX12_vertex_29 rfl rfl ⟨_, rfl, (h2.1 q4)⟩
  · refine z_iload_n dX12_vertex_16 rfl ?_
    refine z_i2l_ dX12_vertex_17 ?_
    refine z_lconst0 dX12_vertex_18 ?_
    refine z_ldc2 (n := 2) dX12_vertex_19 zc_1610 ⟨by decide, by decide⟩ ?_
    refine n_sI (as := [(1, b), (1, 0), (1, 2)]) (rest := []) dX12_vertex_22 zm_X12_in zs_X12_143 rfl rfl (Nat.le_of_ble_eq_true rfl) (Nat.le_of_ble_eq_true rfl) (h2.2 q5) (fun x8 m6 h7 => ?_)
    refine z_if_ne (tgt := 30) dX12_vertex_25 (by decide) (fun q9 => ?_) (fun q10 => ?_)
    · refine z_iload_n dX12_vertex_30 rfl ?_
      refine z_if_ne (tgt := 43) dX12_vertex_31 (by decide) (fun q11 => ?_) (fun q12 => ?_)
      · refine z_iload_n dX12_vertex_43 rfl ?_
        refine z_iconst dX12_vertex_44 ⟨by decide, by decide⟩ ?_
        refine z_icmp_ne (tgt := 59) dX12_vertex_45 (by decide) (fun q13 => ?_) (fun q14 => ?_)
        · refine z_aload_n dX12_vertex_59 rfl ?_
          refine z_iload_n dX12_vertex_60 rfl ?_
          refine n_vI (as := [(0, a)]) (rest := []) dX12_vertex_61 zm_X12_cutsAt zs_X12_356 k_113 (by decide) rfl rfl (Nat.le_of_ble_eq_true rfl) (Nat.le_of_ble_eq_true rfl) (((h7.1 q9).1 q11).1 q13) (fun x17 m15 h16 => ?_)
          exact z_ireturn dX12_vertex_64 rfl rfl ⟨_, rfl, h16⟩
        · refine z_iconst dX12_vertex_48 ⟨by decide, by decide⟩ ?_
          refine z_aload_n dX12_vertex_49 rfl ?_
          refine n_getp (ji := 20) dX12_vertex_50 zf_X12_57 k_113 rfl (by decide) rfl p_113_20 ?_
          refine z_iload_n dX12_vertex_53 rfl ?_
          refine n_iald dX12_vertex_54 k_129 (((h7.1 q9).1 q11).2 q14).1 ?_
          refine z_isub dX12_vertex_55 (((h7.1 q9).1 q11).2 q14).2.1 ?_
          refine z_goto (tgt := 64) dX12_vertex_56 (by decide) ?_
          exact z_ireturn dX12_vertex_64 rfl rfl ⟨_, rfl, (((h7.1 q9).1 q11).2 q14).2.2⟩
      · refine z_aload_n dX12_vertex_34 rfl ?_
        refine n_getp (ji := 20) dX12_vertex_35 zf_X12_57 k_113 rfl (by decide) rfl p_113_20 ?_
        refine z_iload_n dX12_vertex_38 rfl ?_
        refine n_iald dX12_vertex_39 k_129 ((h7.1 q9).2 q12).1 ?_
        refine z_goto (tgt := 64) dX12_vertex_40 (by decide) ?_
        exact z_ireturn dX12_vertex_64 rfl rfl ⟨_, rfl, ((h7.1 q9).2 q12).2⟩
    · refine z_iconst dX12_vertex_28 ⟨by decide, by decide⟩ ?_
      exact z_ireturn dX12_vertex_29 rfl rfl ⟨_, rfl, (h7.2 q10)⟩
set_option maxRecDepth 20000 in
theorem V_X12_place {a b : Int}  {μ : z_Mem} {d : Nat} {K : Int → z_Mem → Prop} (h : z_ci m_X12_isFace [(2, 113), (0, a)] μ d (fun x3 m1 => (x3 = 0 → K (-1000) m1) ∧ (¬ x3 = 0 → z_ci m_X12_in [(1, b), (1, 0), (1, 2)] m1 d (fun x8 m6 => (¬ x8 = 0 → z_ci m_X12_places [(2, 113)] m6 d (fun x13 m11 => ((0 : Int) ≤ a ∧ a < 30) ∧ ((¬ m11 130 a = 0 → (¬ b = 0 → (¬ b = 1 → ((0 : Int) ≤ a ∧ a < 30) ∧ (K (m11 137 a) m11)) ∧ (b = 1 → ((0 : Int) ≤ a ∧ a < 30) ∧ (K (m11 136 a) m11))) ∧ (b = 0 → ((0 : Int) ≤ a ∧ a < 30) ∧ (K (m11 135 a) m11))) ∧ (m11 130 a = 0 → K (-1000) m11)))) ∧ (x8 = 0 → K (-1000) m6))))) : z_ci m_X12_place [(2, 113), (0, a), (0, b)] μ (d + 1) K := by
  show z_R m_X12_place 0 [some (2, 113), some (0, a), some (0, b)] [] z_n μ (d + 1) _
  refine z_aload_n dX12_place_0 rfl ?_
  refine z_iload_n dX12_place_1 rfl ?_
  refine n_vI (as := [(0, a)]) (rest := []) dX12_place_2 zm_X12_isFace zs_X12_278 k_113 (by decide) rfl rfl (Nat.le_of_ble_eq_true rfl) (Nat.le_of_ble_eq_true rfl) h (fun x3 m1 h2 => ?_)
  refine z_if_eq (tgt := 20) dX12_place_5 (by decide) (fun q4 => ?_) (fun q5 => ?_)
  · refine z_sipush dX12_place_20 (by decide) ?_
    exact z_ireturn dX12_place_23 rfl rfl ⟨_, rfl, (h2.1 q4)⟩
  · refine z_iload_n dX12_place_8 rfl ?_
    refine z_i2l_ dX12_place_9 ?_
    refine z_lconst0 dX12_place_10 ?_
    refine z_ldc2 (n := 2) dX12_place_11 zc_1610 ⟨by decide, by decide⟩ ?_
    refine n_sI (as := [(1, b), (1, 0), (1, 2)]) (rest := []) dX12_place_14 zm_X12_in zs_X12_143 rfl rfl (Nat.le_of_ble_eq_true rfl) (Nat.le_of_ble_eq_true rfl) (h2.2 q5) (fun x8 m6 h7 => ?_)
    refine z_if_ne (tgt := 24) dX12_place_17 (by decide) (fun q9 => ?_) (fun q10 => ?_)
    · refine z_aload_n dX12_place_24 rfl ?_
      refine n_vI (as := []) (rest := []) dX12_place_25 zm_X12_places zs_X12_304 k_113 (by decide) rfl rfl (Nat.le_of_ble_eq_true rfl) (Nat.le_of_ble_eq_true rfl) (h7.1 q9) (fun x13 m11 h12 => ?_)
      refine z_pop dX12_place_28 rfl ?_
      refine z_aload_n dX12_place_29 rfl ?_
      refine n_getp (ji := 24) dX12_place_30 zf_X12_60 k_113 rfl (by decide) rfl p_113_24 ?_
      refine z_iload_n dX12_place_33 rfl ?_
      refine n_zald dX12_place_34 k_130 h12.1 ?_
      refine z_if_ne (tgt := 44) dX12_place_35 (by decide) (fun q14 => ?_) (fun q15 => ?_)
      · refine z_iload_n dX12_place_44 rfl ?_
        refine z_if_ne (tgt := 57) dX12_place_45 (by decide) (fun q16 => ?_) (fun q17 => ?_)
        · refine z_iload_n dX12_place_57 rfl ?_
          refine z_iconst dX12_place_58 ⟨by decide, by decide⟩ ?_
          refine z_icmp_ne (tgt := 71) dX12_place_59 (by decide) (fun q18 => ?_) (fun q19 => ?_)
          · refine z_aload_n dX12_place_71 rfl ?_
            refine n_getp (ji := 31) dX12_place_72 zf_X12_81 k_113 rfl (by decide) rfl p_113_31 ?_
            refine z_iload_n dX12_place_75 rfl ?_
            refine n_iald dX12_place_76 k_137 (((h12.2.1 q14).1 q16).1 q18).1 ?_
            exact z_ireturn dX12_place_77 rfl rfl ⟨_, rfl, (((h12.2.1 q14).1 q16).1 q18).2⟩
          · refine z_aload_n dX12_place_62 rfl ?_
            refine n_getp (ji := 30) dX12_place_63 zf_X12_78 k_113 rfl (by decide) rfl p_113_30 ?_
            refine z_iload_n dX12_place_66 rfl ?_
            refine n_iald dX12_place_67 k_136 (((h12.2.1 q14).1 q16).2 q19).1 ?_
            refine z_goto (tgt := 77) dX12_place_68 (by decide) ?_
            exact z_ireturn dX12_place_77 rfl rfl ⟨_, rfl, (((h12.2.1 q14).1 q16).2 q19).2⟩
        · refine z_aload_n dX12_place_48 rfl ?_
          refine n_getp (ji := 29) dX12_place_49 zf_X12_75 k_113 rfl (by decide) rfl p_113_29 ?_
          refine z_iload_n dX12_place_52 rfl ?_
          refine n_iald dX12_place_53 k_135 ((h12.2.1 q14).2 q17).1 ?_
          refine z_goto (tgt := 77) dX12_place_54 (by decide) ?_
          exact z_ireturn dX12_place_77 rfl rfl ⟨_, rfl, ((h12.2.1 q14).2 q17).2⟩
      · refine z_sipush dX12_place_38 (by decide) ?_
        refine z_goto (tgt := 77) dX12_place_41 (by decide) ?_
        exact z_ireturn dX12_place_77 rfl rfl ⟨_, rfl, (h12.2.2 q15)⟩
    · refine z_sipush dX12_place_20 (by decide) ?_
      exact z_ireturn dX12_place_23 rfl rfl ⟨_, rfl, (h7.2 q10)⟩
set_option maxRecDepth 20000 in
theorem V_X12_over {a : Int}  {μ : z_Mem} {d : Nat} {K : Int → z_Mem → Prop} (h : ((-1) ≤ a → z_ci m_X12_places [(2, 113)] μ d (fun x5 m3 => z_ri m_X12_over 16 [some (2, 113), some (0, a), some (0, 0), some (0, 0), none] m3 (d + 1) K)) ∧ (a < (-1) → K (-1) μ)) : z_ci m_X12_over [(2, 113), (0, a)] μ (d + 1) K := by
  show z_R m_X12_over 0 [some (2, 113), some (0, a), none, none, none] [] z_n μ (d + 1) _
  refine z_iload_n dX12_over_0 rfl ?_
  refine z_iconst dX12_over_1 ⟨by decide, by decide⟩ ?_
  refine z_icmp_ge (tgt := 7) dX12_over_2 (by decide) (fun q1 => ?_) (fun q2 => ?_)
  · refine z_aload_n dX12_over_7 rfl ?_
    refine n_vI (as := []) (rest := []) dX12_over_8 zm_X12_places zs_X12_304 k_113 (by decide) rfl rfl (Nat.le_of_ble_eq_true rfl) (Nat.le_of_ble_eq_true rfl) (h.1 q1) (fun x5 m3 h4 => ?_)
    refine z_pop dX12_over_11 rfl ?_
    refine z_iconst dX12_over_12 ⟨by decide, by decide⟩ ?_
    refine n_istore_n (lo' := [some (2, 113), some (0, a), some (0, 0), none, none]) dX12_over_13 ⟨Nat.le_of_ble_eq_true rfl, Nat.le_of_ble_eq_true rfl⟩ rfl ?_
    refine z_iconst dX12_over_14 ⟨by decide, by decide⟩ ?_
    refine n_istore_n (lo' := [some (2, 113), some (0, a), some (0, 0), some (0, 0), none]) dX12_over_15 ⟨Nat.le_of_ble_eq_true rfl, Nat.le_of_ble_eq_true rfl⟩ rfl ?_
    refine z_drop [some (2, 113), some (0, a), some (0, 0), some (0, 0), none] ⟨rfl, rfl, rfl, rfl, trivial⟩ ?_
    exact h4
  · refine z_iconst dX12_over_5 ⟨by decide, by decide⟩ ?_
    exact z_ireturn dX12_over_6 rfl rfl ⟨_, rfl, (h.2 q2)⟩
set_option maxRecDepth 20000 in
theorem V_X12_over_16 {v1 v2 v3 : Int}  {μ : z_Mem} {d : Nat} {K : Int → z_Mem → Prop} (h : (μ 113 21 ≤ v3 → (¬ v1 = (-1) → K (-2) μ) ∧ (v1 = (-1) → K v2 μ)) ∧ (v3 < μ 113 21 → z_I (v3 + 1) ∧ (z_ri m_X12_over 29 [some (2, 113), some (0, v1), some (0, v2), some (0, v3), some (0, v3 + 1)] μ (d + 1) K))) : z_ri m_X12_over 16 [some (2, 113), some (0, v1), some (0, v2), some (0, v3), none] μ (d + 1) K := by
  show z_R m_X12_over 16 [some (2, 113), some (0, v1), some (0, v2), some (0, v3), none] [] z_n μ (d + 1) _
  refine z_iload_n dX12_over_16 rfl ?_
  refine z_aload_n dX12_over_17 rfl ?_
  refine n_getf (ji := 21) (t := 0) dX12_over_18 zf_X12_205 k_113 rfl (by decide) rfl ?_
  refine z_icmp_ge (tgt := 79) dX12_over_21 (by decide) (fun q1 => ?_) (fun q2 => ?_)
  · refine z_iload_n dX12_over_79 rfl ?_
    refine z_iconst dX12_over_80 ⟨by decide, by decide⟩ ?_
    refine z_icmp_ne (tgt := 88) dX12_over_81 (by decide) (fun q3 => ?_) (fun q4 => ?_)
    · refine z_bipush dX12_over_88 (by decide) ?_
      exact z_ireturn dX12_over_90 rfl rfl ⟨_, rfl, ((h.1 q1).1 q3)⟩
    · refine z_iload_n dX12_over_84 rfl ?_
      refine z_goto (tgt := 90) dX12_over_85 (by decide) ?_
      exact z_ireturn dX12_over_90 rfl rfl ⟨_, rfl, ((h.1 q1).2 q4)⟩
  · refine z_iload_n dX12_over_24 rfl ?_
    refine z_iconst dX12_over_25 ⟨by decide, by decide⟩ ?_
    refine z_iadd dX12_over_26 (h.2 q2).1 ?_
    refine n_istore (lo' := [some (2, 113), some (0, v1), some (0, v2), some (0, v3), some (0, v3 + 1)]) dX12_over_27 ⟨Nat.le_of_ble_eq_true rfl, Nat.le_of_ble_eq_true rfl⟩ rfl ?_
    refine z_drop [some (2, 113), some (0, v1), some (0, v2), some (0, v3), some (0, v3 + 1)] ⟨rfl, rfl, rfl, rfl, rfl, trivial⟩ ?_
    exact (h.2 q2).2
set_option maxRecDepth 20000 in
theorem V_X12_over_29 {v1 v2 v3 v4 : Int}  {μ : z_Mem} {d : Nat} {K : Int → z_Mem → Prop} (h : (μ 113 21 ≤ v4 → z_I (v3 + 1) ∧ (z_ri m_X12_over 16 [some (2, 113), some (0, v1), some (0, v2), some (0, v3 + 1), none] μ (d + 1) K)) ∧ (v4 < μ 113 21 → z_ci m_X12_areOver [(2, 113), (0, v3), (0, v4)] μ d (fun x5 m3 => (¬ x5 = 0 → (¬ v2 = v1 → z_I (v2 + 1) ∧ (z_I (v4 + 1) ∧ (z_ri m_X12_over 29 [some (2, 113), some (0, v1), some (0, v2 + 1), some (0, v3), some (0, v4 + 1)] m3 (d + 1) K))) ∧ (v2 = v1 → z_I (100 * v3) ∧ (z_I ((100 * v3) + v4) ∧ (K ((100 * v3) + v4) m3)))) ∧ (x5 = 0 → z_I (v4 + 1) ∧ (z_ri m_X12_over 29 [some (2, 113), some (0, v1), some (0, v2), some (0, v3), some (0, v4 + 1)] m3 (d + 1) K))))) : z_ri m_X12_over 29 [some (2, 113), some (0, v1), some (0, v2), some (0, v3), some (0, v4)] μ (d + 1) K := by
  show z_R m_X12_over 29 [some (2, 113), some (0, v1), some (0, v2), some (0, v3), some (0, v4)] [] z_n μ (d + 1) _
  refine z_iload dX12_over_29 rfl ?_
  refine z_aload_n dX12_over_31 rfl ?_
  refine n_getf (ji := 21) (t := 0) dX12_over_32 zf_X12_205 k_113 rfl (by decide) rfl ?_
  refine z_icmp_ge (tgt := 73) dX12_over_35 (by decide) (fun q1 => ?_) (fun q2 => ?_)
  · refine n_iinc (lo' := [some (2, 113), some (0, v1), some (0, v2), some (0, v3 + 1), some (0, v4)]) dX12_over_73 rfl (by decide) (h.1 q1).1 rfl ?_
    refine z_goto (tgt := 16) dX12_over_76 (by decide) ?_
    refine z_drop [some (2, 113), some (0, v1), some (0, v2), some (0, v3 + 1), none] ⟨rfl, rfl, rfl, rfl, trivial⟩ ?_
    exact (h.1 q1).2
  · refine z_aload_n dX12_over_38 rfl ?_
    refine z_iload_n dX12_over_39 rfl ?_
    refine z_iload dX12_over_40 rfl ?_
    refine n_vI (as := [(0, v3), (0, v4)]) (rest := []) dX12_over_42 zm_X12_areOver zs_X12_307 k_113 (by decide) rfl rfl (Nat.le_of_ble_eq_true rfl) (Nat.le_of_ble_eq_true rfl) (h.2 q2) (fun x5 m3 h4 => ?_)
    refine z_if_ne (tgt := 51) dX12_over_45 (by decide) (fun q6 => ?_) (fun q7 => ?_)
    · refine z_iload_n dX12_over_51 rfl ?_
      refine z_iload_n dX12_over_52 rfl ?_
      refine z_icmp_ne (tgt := 64) dX12_over_53 (by decide) (fun q8 => ?_) (fun q9 => ?_)
      · refine n_iinc (lo' := [some (2, 113), some (0, v1), some (0, v2 + 1), some (0, v3), some (0, v4)]) dX12_over_64 rfl (by decide) ((h4.1 q6).1 q8).1 rfl ?_
        refine n_iinc (lo' := [some (2, 113), some (0, v1), some (0, v2 + 1), some (0, v3), some (0, v4 + 1)]) dX12_over_67 rfl (by decide) ((h4.1 q6).1 q8).2.1 rfl ?_
        refine z_goto (tgt := 29) dX12_over_70 (by decide) ?_
        refine z_drop [some (2, 113), some (0, v1), some (0, v2 + 1), some (0, v3), some (0, v4 + 1)] ⟨rfl, rfl, rfl, rfl, rfl, trivial⟩ ?_
        exact ((h4.1 q6).1 q8).2.2
      · refine z_bipush dX12_over_56 (by decide) ?_
        refine z_iload_n dX12_over_58 rfl ?_
        refine z_imul dX12_over_59 ((h4.1 q6).2 q9).1 ?_
        refine z_iload dX12_over_60 rfl ?_
        refine z_iadd dX12_over_62 ((h4.1 q6).2 q9).2.1 ?_
        exact z_ireturn dX12_over_63 rfl rfl ⟨_, rfl, ((h4.1 q6).2 q9).2.2⟩
    · refine z_goto (tgt := 67) dX12_over_48 (by decide) ?_
      refine n_iinc (lo' := [some (2, 113), some (0, v1), some (0, v2), some (0, v3), some (0, v4 + 1)]) dX12_over_67 rfl (by decide) (h4.2 q7).1 rfl ?_
      refine z_goto (tgt := 29) dX12_over_70 (by decide) ?_
      refine z_drop [some (2, 113), some (0, v1), some (0, v2), some (0, v3), some (0, v4 + 1)] ⟨rfl, rfl, rfl, rfl, rfl, trivial⟩ ?_
      exact (h4.2 q7).2
set_option maxRecDepth 20000 in
theorem V_X12_box {a : Int}  {μ : z_Mem} {d : Nat} {K : Int → z_Mem → Prop} (h : (μ 113 21 = 0 → K (-1000) μ) ∧ (¬ μ 113 21 = 0 → z_ci m_X12_in [(1, a), (1, 0), (1, 3)] μ d (fun x5 m3 => (¬ x5 = 0 → z_ci m_X12_places [(2, 113)] m3 d (fun x10 m8 => z_ri m_X12_box 32 [some (2, 113), some (0, a), some (0, 0), some (0, 0), none] m8 (d + 1) K)) ∧ (x5 = 0 → K (-1000) m3)))) : z_ci m_X12_box [(2, 113), (0, a)] μ (d + 1) K := by
  show z_R m_X12_box 0 [some (2, 113), some (0, a), none, none, none] [] z_n μ (d + 1) _
  refine z_aload_n dX12_box_0 rfl ?_
  refine n_getf (ji := 21) (t := 0) dX12_box_1 zf_X12_205 k_113 rfl (by decide) rfl ?_
  refine z_if_eq (tgt := 19) dX12_box_4 (by decide) (fun q1 => ?_) (fun q2 => ?_)
  · refine z_sipush dX12_box_19 (by decide) ?_
    exact z_ireturn dX12_box_22 rfl rfl ⟨_, rfl, (h.1 q1)⟩
  · refine z_iload_n dX12_box_7 rfl ?_
    refine z_i2l_ dX12_box_8 ?_
    refine z_lconst0 dX12_box_9 ?_
    refine z_ldc2 (n := 3) dX12_box_10 zc_1631 ⟨by decide, by decide⟩ ?_
    refine n_sI (as := [(1, a), (1, 0), (1, 3)]) (rest := []) dX12_box_13 zm_X12_in zs_X12_143 rfl rfl (Nat.le_of_ble_eq_true rfl) (Nat.le_of_ble_eq_true rfl) (h.2 q2) (fun x5 m3 h4 => ?_)
    refine z_if_ne (tgt := 23) dX12_box_16 (by decide) (fun q6 => ?_) (fun q7 => ?_)
    · refine z_aload_n dX12_box_23 rfl ?_
      refine n_vI (as := []) (rest := []) dX12_box_24 zm_X12_places zs_X12_304 k_113 (by decide) rfl rfl (Nat.le_of_ble_eq_true rfl) (Nat.le_of_ble_eq_true rfl) (h4.1 q6) (fun x10 m8 h9 => ?_)
      refine z_pop dX12_box_27 rfl ?_
      refine z_iconst dX12_box_28 ⟨by decide, by decide⟩ ?_
      refine n_istore_n (lo' := [some (2, 113), some (0, a), some (0, 0), none, none]) dX12_box_29 ⟨Nat.le_of_ble_eq_true rfl, Nat.le_of_ble_eq_true rfl⟩ rfl ?_
      refine z_iconst dX12_box_30 ⟨by decide, by decide⟩ ?_
      refine n_istore_n (lo' := [some (2, 113), some (0, a), some (0, 0), some (0, 0), none]) dX12_box_31 ⟨Nat.le_of_ble_eq_true rfl, Nat.le_of_ble_eq_true rfl⟩ rfl ?_
      refine z_drop [some (2, 113), some (0, a), some (0, 0), some (0, 0), none] ⟨rfl, rfl, rfl, rfl, trivial⟩ ?_
      exact h9
    · refine z_sipush dX12_box_19 (by decide) ?_
      exact z_ireturn dX12_box_22 rfl rfl ⟨_, rfl, (h4.2 q7)⟩
set_option maxRecDepth 20000 in
theorem V_X12_box_32 {v1 v2 v3 : Int}  {μ : z_Mem} {d : Nat} {K : Int → z_Mem → Prop} (h : (μ 113 21 ≤ v3 → K v2 μ) ∧ (v3 < μ 113 21 → ((0 : Int) ≤ v1) ∧ ((¬ v1 % 2 = 0 → ((0 : Int) ≤ v3 ∧ v3 < 30) ∧ (((0 : Int) ≤ v3 ∧ v3 < 30) ∧ ((μ 130 v3 = 0 → z_I (v3 + 1) ∧ (z_ri m_X12_box 32 [some (2, 113), some (0, v1), some (0, v2), some (0, v3 + 1), none] μ (d + 1) K)) ∧ (¬ μ 130 v3 = 0 → (2 ≤ v1 → z_I (v3 + 1) ∧ (z_ri m_X12_box 32 [some (2, 113), some (0, v1), some (0, max v2 (μ 136 v3)), some (0, v3 + 1), none] μ (d + 1) K)) ∧ (v1 < 2 → z_I (v3 + 1) ∧ (z_ri m_X12_box 32 [some (2, 113), some (0, v1), some (0, min v2 (μ 136 v3)), some (0, v3 + 1), none] μ (d + 1) K)))))) ∧ (v1 % 2 = 0 → ((0 : Int) ≤ v3 ∧ v3 < 30) ∧ (((0 : Int) ≤ v3 ∧ v3 < 30) ∧ ((μ 130 v3 = 0 → z_I (v3 + 1) ∧ (z_ri m_X12_box 32 [some (2, 113), some (0, v1), some (0, v2), some (0, v3 + 1), none] μ (d + 1) K)) ∧ (¬ μ 130 v3 = 0 → (2 ≤ v1 → z_I (v3 + 1) ∧ (z_ri m_X12_box 32 [some (2, 113), some (0, v1), some (0, max v2 (μ 135 v3)), some (0, v3 + 1), none] μ (d + 1) K)) ∧ (v1 < 2 → z_I (v3 + 1) ∧ (z_ri m_X12_box 32 [some (2, 113), some (0, v1), some (0, min v2 (μ 135 v3)), some (0, v3 + 1), none] μ (d + 1) K))))))))) : z_ri m_X12_box 32 [some (2, 113), some (0, v1), some (0, v2), some (0, v3), none] μ (d + 1) K := by
  show z_R m_X12_box 32 [some (2, 113), some (0, v1), some (0, v2), some (0, v3), none] [] z_n μ (d + 1) _
  refine z_iload_n dX12_box_32 rfl ?_
  refine z_aload_n dX12_box_33 rfl ?_
  refine n_getf (ji := 21) (t := 0) dX12_box_34 zf_X12_205 k_113 rfl (by decide) rfl ?_
  refine z_icmp_ge (tgt := 99) dX12_box_37 (by decide) (fun q1 => ?_) (fun q2 => ?_)
  · refine z_iload_n dX12_box_99 rfl ?_
    exact z_ireturn dX12_box_100 rfl rfl ⟨_, rfl, (h.1 q1)⟩
  · refine z_iload_n dX12_box_40 rfl ?_
    refine z_iconst dX12_box_41 ⟨by decide, by decide⟩ ?_
    refine z_irem dX12_box_42 (h.2 q2).1 (by decide) ?_
    refine z_if_ne (tgt := 55) dX12_box_43 (by decide) (fun q3 => ?_) (fun q4 => ?_)
    · refine z_aload_n dX12_box_55 rfl ?_
      refine n_getp (ji := 30) dX12_box_56 zf_X12_78 k_113 rfl (by decide) rfl p_113_30 ?_
      refine z_iload_n dX12_box_59 rfl ?_
      refine n_iald dX12_box_60 k_136 ((h.2 q2).2.1 q3).1 ?_
      refine n_istore (lo' := [some (2, 113), some (0, v1), some (0, v2), some (0, v3), some (0, μ 136 v3)]) dX12_box_61 ⟨Nat.le_of_ble_eq_true rfl, Nat.le_of_ble_eq_true rfl⟩ rfl ?_
      refine z_aload_n dX12_box_63 rfl ?_
      refine n_getp (ji := 24) dX12_box_64 zf_X12_60 k_113 rfl (by decide) rfl p_113_24 ?_
      refine z_iload_n dX12_box_67 rfl ?_
      refine n_zald dX12_box_68 k_130 ((h.2 q2).2.1 q3).2.1 ?_
      refine z_if_eq (tgt := 93) dX12_box_69 (by decide) (fun q5 => ?_) (fun q6 => ?_)
      · refine n_iinc (lo' := [some (2, 113), some (0, v1), some (0, v2), some (0, v3 + 1), some (0, μ 136 v3)]) dX12_box_93 rfl (by decide) (((h.2 q2).2.1 q3).2.2.1 q5).1 rfl ?_
        refine z_goto (tgt := 32) dX12_box_96 (by decide) ?_
        refine z_drop [some (2, 113), some (0, v1), some (0, v2), some (0, v3 + 1), none] ⟨rfl, rfl, rfl, rfl, trivial⟩ ?_
        exact (((h.2 q2).2.1 q3).2.2.1 q5).2
      · refine z_iload_n dX12_box_72 rfl ?_
        refine z_iconst dX12_box_73 ⟨by decide, by decide⟩ ?_
        refine z_icmp_ge (tgt := 86) dX12_box_74 (by decide) (fun q7 => ?_) (fun q8 => ?_)
        · refine z_iload_n dX12_box_86 rfl ?_
          refine z_iload dX12_box_87 rfl ?_
          refine z_mmax dX12_box_89 zq_1559 zq_675 zq_133 zq_676 (Nat.le_of_ble_eq_true rfl) ?_
          refine n_istore_n (lo' := [some (2, 113), some (0, v1), some (0, max v2 (μ 136 v3)), some (0, v3), some (0, μ 136 v3)]) dX12_box_92 ⟨Nat.le_of_ble_eq_true rfl, Nat.le_of_ble_eq_true rfl⟩ rfl ?_
          refine n_iinc (lo' := [some (2, 113), some (0, v1), some (0, max v2 (μ 136 v3)), some (0, v3 + 1), some (0, μ 136 v3)]) dX12_box_93 rfl (by decide) ((((h.2 q2).2.1 q3).2.2.2 q6).1 q7).1 rfl ?_
          refine z_goto (tgt := 32) dX12_box_96 (by decide) ?_
          refine z_drop [some (2, 113), some (0, v1), some (0, max v2 (μ 136 v3)), some (0, v3 + 1), none] ⟨rfl, rfl, rfl, rfl, trivial⟩ ?_
          exact ((((h.2 q2).2.1 q3).2.2.2 q6).1 q7).2
        · refine z_iload_n dX12_box_77 rfl ?_
          refine z_iload dX12_box_78 rfl ?_
          refine z_mmin dX12_box_80 zq_1406 zq_592 zq_133 zq_593 (Nat.le_of_ble_eq_true rfl) ?_
          refine z_goto (tgt := 92) dX12_box_83 (by decide) ?_
          refine n_istore_n (lo' := [some (2, 113), some (0, v1), some (0, min v2 (μ 136 v3)), some (0, v3), some (0, μ 136 v3)]) dX12_box_92 ⟨Nat.le_of_ble_eq_true rfl, Nat.le_of_ble_eq_true rfl⟩ rfl ?_
          refine n_iinc (lo' := [some (2, 113), some (0, v1), some (0, min v2 (μ 136 v3)), some (0, v3 + 1), some (0, μ 136 v3)]) dX12_box_93 rfl (by decide) ((((h.2 q2).2.1 q3).2.2.2 q6).2 q8).1 rfl ?_
          refine z_goto (tgt := 32) dX12_box_96 (by decide) ?_
          refine z_drop [some (2, 113), some (0, v1), some (0, min v2 (μ 136 v3)), some (0, v3 + 1), none] ⟨rfl, rfl, rfl, rfl, trivial⟩ ?_
          exact ((((h.2 q2).2.1 q3).2.2.2 q6).2 q8).2
    · refine z_aload_n dX12_box_46 rfl ?_
      refine n_getp (ji := 29) dX12_box_47 zf_X12_75 k_113 rfl (by decide) rfl p_113_29 ?_
      refine z_iload_n dX12_box_50 rfl ?_
      refine n_iald dX12_box_51 k_135 ((h.2 q2).2.2 q4).1 ?_
      refine z_goto (tgt := 61) dX12_box_52 (by decide) ?_
      refine n_istore (lo' := [some (2, 113), some (0, v1), some (0, v2), some (0, v3), some (0, μ 135 v3)]) dX12_box_61 ⟨Nat.le_of_ble_eq_true rfl, Nat.le_of_ble_eq_true rfl⟩ rfl ?_
      refine z_aload_n dX12_box_63 rfl ?_
      refine n_getp (ji := 24) dX12_box_64 zf_X12_60 k_113 rfl (by decide) rfl p_113_24 ?_
      refine z_iload_n dX12_box_67 rfl ?_
      refine n_zald dX12_box_68 k_130 ((h.2 q2).2.2 q4).2.1 ?_
      refine z_if_eq (tgt := 93) dX12_box_69 (by decide) (fun q9 => ?_) (fun q10 => ?_)
      · refine n_iinc (lo' := [some (2, 113), some (0, v1), some (0, v2), some (0, v3 + 1), some (0, μ 135 v3)]) dX12_box_93 rfl (by decide) (((h.2 q2).2.2 q4).2.2.1 q9).1 rfl ?_
        refine z_goto (tgt := 32) dX12_box_96 (by decide) ?_
        refine z_drop [some (2, 113), some (0, v1), some (0, v2), some (0, v3 + 1), none] ⟨rfl, rfl, rfl, rfl, trivial⟩ ?_
        exact (((h.2 q2).2.2 q4).2.2.1 q9).2
      · refine z_iload_n dX12_box_72 rfl ?_
        refine z_iconst dX12_box_73 ⟨by decide, by decide⟩ ?_
        refine z_icmp_ge (tgt := 86) dX12_box_74 (by decide) (fun q11 => ?_) (fun q12 => ?_)
        · refine z_iload_n dX12_box_86 rfl ?_
          refine z_iload dX12_box_87 rfl ?_
          refine z_mmax dX12_box_89 zq_1559 zq_675 zq_133 zq_676 (Nat.le_of_ble_eq_true rfl) ?_
          refine n_istore_n (lo' := [some (2, 113), some (0, v1), some (0, max v2 (μ 135 v3)), some (0, v3), some (0, μ 135 v3)]) dX12_box_92 ⟨Nat.le_of_ble_eq_true rfl, Nat.le_of_ble_eq_true rfl⟩ rfl ?_
          refine n_iinc (lo' := [some (2, 113), some (0, v1), some (0, max v2 (μ 135 v3)), some (0, v3 + 1), some (0, μ 135 v3)]) dX12_box_93 rfl (by decide) ((((h.2 q2).2.2 q4).2.2.2 q10).1 q11).1 rfl ?_
          refine z_goto (tgt := 32) dX12_box_96 (by decide) ?_
          refine z_drop [some (2, 113), some (0, v1), some (0, max v2 (μ 135 v3)), some (0, v3 + 1), none] ⟨rfl, rfl, rfl, rfl, trivial⟩ ?_
          exact ((((h.2 q2).2.2 q4).2.2.2 q10).1 q11).2
        · refine z_iload_n dX12_box_77 rfl ?_
          refine z_iload dX12_box_78 rfl ?_
          refine z_mmin dX12_box_80 zq_1406 zq_592 zq_133 zq_593 (Nat.le_of_ble_eq_true rfl) ?_
          refine z_goto (tgt := 92) dX12_box_83 (by decide) ?_
          refine n_istore_n (lo' := [some (2, 113), some (0, v1), some (0, min v2 (μ 135 v3)), some (0, v3), some (0, μ 135 v3)]) dX12_box_92 ⟨Nat.le_of_ble_eq_true rfl, Nat.le_of_ble_eq_true rfl⟩ rfl ?_
          refine n_iinc (lo' := [some (2, 113), some (0, v1), some (0, min v2 (μ 135 v3)), some (0, v3 + 1), some (0, μ 135 v3)]) dX12_box_93 rfl (by decide) ((((h.2 q2).2.2 q4).2.2.2 q10).2 q12).1 rfl ?_
          refine z_goto (tgt := 32) dX12_box_96 (by decide) ?_
          refine z_drop [some (2, 113), some (0, v1), some (0, min v2 (μ 135 v3)), some (0, v3 + 1), none] ⟨rfl, rfl, rfl, rfl, trivial⟩ ?_
          exact ((((h.2 q2).2.2 q4).2.2.2 q10).2 q12).2
set_option maxRecDepth 20000 in
theorem V_X12_part {a : Int}  {μ : z_Mem} {d : Nat} {K : Int → z_Mem → Prop} (h : z_ci m_X12_isEdge [(2, 113), (0, a)] μ d (fun x3 m1 => (¬ x3 = 0 → z_ci m_X12_isHinge [(2, 113), (0, a)] m1 d (fun x8 m6 => (¬ x8 = 0 → z_ci m_X12_joins [(2, 113), (0, m6 114 22)] m6 d (fun x13 m11 => z_ri m_X12_part 37 [some (2, 113), some (0, a), some (0, 0), some (0, 0)] m11 (d + 1) K)) ∧ (x8 = 0 → K (-2) m6))) ∧ (x3 = 0 → K (-1) m1))) : z_ci m_X12_part [(2, 113), (0, a)] μ (d + 1) K := by
  show z_R m_X12_part 0 [some (2, 113), some (0, a), none, none] [] z_n μ (d + 1) _
  refine z_aload_n dX12_part_0 rfl ?_
  refine z_iload_n dX12_part_1 rfl ?_
  refine n_vI (as := [(0, a)]) (rest := []) dX12_part_2 zm_X12_isEdge zs_X12_263 k_113 (by decide) rfl rfl (Nat.le_of_ble_eq_true rfl) (Nat.le_of_ble_eq_true rfl) h (fun x3 m1 h2 => ?_)
  refine z_if_ne (tgt := 10) dX12_part_5 (by decide) (fun q4 => ?_) (fun q5 => ?_)
  · refine z_aload_n dX12_part_10 rfl ?_
    refine z_iload_n dX12_part_11 rfl ?_
    refine n_vI (as := [(0, a)]) (rest := []) dX12_part_12 zm_X12_isHinge zs_X12_257 k_113 (by decide) rfl rfl (Nat.le_of_ble_eq_true rfl) (Nat.le_of_ble_eq_true rfl) (h2.1 q4) (fun x8 m6 h7 => ?_)
    refine z_if_ne (tgt := 21) dX12_part_15 (by decide) (fun q9 => ?_) (fun q10 => ?_)
    · refine z_aload_n dX12_part_21 rfl ?_
      refine z_aload_n dX12_part_22 rfl ?_
      refine n_getp (ji := 0) dX12_part_23 zf_X12_9 k_113 rfl (by decide) rfl p_113_0 ?_
      refine z_bipush dX12_part_26 (by decide) ?_
      refine n_iald dX12_part_28 k_114 (by decide) ?_
      refine n_vI (as := [(0, m6 114 22)]) (rest := []) dX12_part_29 zm_X12_joins zs_X12_260 k_113 (by decide) rfl rfl (Nat.le_of_ble_eq_true rfl) (Nat.le_of_ble_eq_true rfl) (h7.1 q9) (fun x13 m11 h12 => ?_)
      refine z_pop dX12_part_32 rfl ?_
      refine z_iconst dX12_part_33 ⟨by decide, by decide⟩ ?_
      refine n_istore_n (lo' := [some (2, 113), some (0, a), some (0, 0), none]) dX12_part_34 ⟨Nat.le_of_ble_eq_true rfl, Nat.le_of_ble_eq_true rfl⟩ rfl ?_
      refine z_iconst dX12_part_35 ⟨by decide, by decide⟩ ?_
      refine n_istore_n (lo' := [some (2, 113), some (0, a), some (0, 0), some (0, 0)]) dX12_part_36 ⟨Nat.le_of_ble_eq_true rfl, Nat.le_of_ble_eq_true rfl⟩ rfl ?_
      refine z_drop [some (2, 113), some (0, a), some (0, 0), some (0, 0)] ⟨rfl, rfl, rfl, rfl, trivial⟩ ?_
      exact h12
    · refine z_bipush dX12_part_18 (by decide) ?_
      exact z_ireturn dX12_part_20 rfl rfl ⟨_, rfl, (h7.2 q10)⟩
  · refine z_iconst dX12_part_8 ⟨by decide, by decide⟩ ?_
    exact z_ireturn dX12_part_9 rfl rfl ⟨_, rfl, (h2.2 q5)⟩
set_option maxRecDepth 20000 in
theorem V_X12_part_37 {v1 v2 v3 : Int}  {μ : z_Mem} {d : Nat} {K : Int → z_Mem → Prop} (h : (μ 113 21 ≤ v3 → z_I (23 + v1) ∧ (((0 : Int) ≤ 23 + v1 ∧ 23 + v1 < 143) ∧ (z_ci m_X12_joins [(2, 113), (0, (z_st μ 114 (23 + v1) 0) 114 22)] (z_st μ 114 (23 + v1) 0) d (fun x5 m3 => z_I (23 + v1) ∧ (((0 : Int) ≤ 23 + v1 ∧ 23 + v1 < 143) ∧ (z_ri m_X12_part 104 [some (2, 113), none, some (0, v2), some (0, 0)] (z_st m3 114 (23 + v1) 1) (d + 1) K)))))) ∧ (v3 < μ 113 21 → ((0 : Int) ≤ v3 ∧ v3 < 30) ∧ ((μ 130 v3 = 0 → ((0 : Int) ≤ v2 ∧ (0 : Int) ≤ 0) ∧ (z_I (v3 + 1) ∧ (z_ri m_X12_part 37 [some (2, 113), some (0, v1), some (0, ((((v2 : Int).toNat ||| (0 : Int).toNat : Nat)) : Int)), some (0, v3 + 1)] μ (d + 1) K))) ∧ (¬ μ 130 v3 = 0 → ((0 : Int) ≤ v3 ∧ v3 < 31) ∧ (((0 : Int) ≤ v2 ∧ (0 : Int) ≤ (2 : Int) ^ (v3 : Int).toNat) ∧ (z_I (v3 + 1) ∧ (z_ri m_X12_part 37 [some (2, 113), some (0, v1), some (0, ((((v2 : Int).toNat ||| ((2 : Int) ^ (v3 : Int).toNat : Int).toNat : Nat)) : Int)), some (0, v3 + 1)] μ (d + 1) K))))))) : z_ri m_X12_part 37 [some (2, 113), some (0, v1), some (0, v2), some (0, v3)] μ (d + 1) K := by
  show z_R m_X12_part 37 [some (2, 113), some (0, v1), some (0, v2), some (0, v3)] [] z_n μ (d + 1) _
  refine z_iload_n dX12_part_37 rfl ?_
  refine z_aload_n dX12_part_38 rfl ?_
  refine n_getf (ji := 21) (t := 0) dX12_part_39 zf_X12_205 k_113 rfl (by decide) rfl ?_
  refine z_icmp_ge (tgt := 70) dX12_part_42 (by decide) (fun q1 => ?_) (fun q2 => ?_)
  · refine z_aload_n dX12_part_70 rfl ?_
    refine n_getp (ji := 0) dX12_part_71 zf_X12_9 k_113 rfl (by decide) rfl p_113_0 ?_
    refine z_bipush dX12_part_74 (by decide) ?_
    refine z_iload_n dX12_part_76 rfl ?_
    refine z_iadd dX12_part_77 (h.1 q1).1 ?_
    refine z_iconst dX12_part_78 ⟨by decide, by decide⟩ ?_
    refine n_iast dX12_part_79 k_114 (h.1 q1).2.1 ?_
    refine z_aload_n dX12_part_80 rfl ?_
    refine z_aload_n dX12_part_81 rfl ?_
    refine n_getp (ji := 0) dX12_part_82 zf_X12_9 k_113 rfl (by decide) rfl p_113_0 ?_
    refine z_bipush dX12_part_85 (by decide) ?_
    refine n_iald dX12_part_87 k_114 (by decide) ?_
    refine n_vI (as := [(0, (z_st μ 114 (23 + v1) 0) 114 22)]) (rest := []) dX12_part_88 zm_X12_joins zs_X12_260 k_113 (by decide) rfl rfl (Nat.le_of_ble_eq_true rfl) (Nat.le_of_ble_eq_true rfl) (h.1 q1).2.2 (fun x5 m3 h4 => ?_)
    refine z_pop dX12_part_91 rfl ?_
    refine z_aload_n dX12_part_92 rfl ?_
    refine n_getp (ji := 0) dX12_part_93 zf_X12_9 k_113 rfl (by decide) rfl p_113_0 ?_
    refine z_bipush dX12_part_96 (by decide) ?_
    refine z_iload_n dX12_part_98 rfl ?_
    refine z_iadd dX12_part_99 h4.1 ?_
    refine z_iconst dX12_part_100 ⟨by decide, by decide⟩ ?_
    refine n_iast dX12_part_101 k_114 h4.2.1 ?_
    refine z_iconst dX12_part_102 ⟨by decide, by decide⟩ ?_
    refine n_istore_n (lo' := [some (2, 113), some (0, v1), some (0, v2), some (0, 0)]) dX12_part_103 ⟨Nat.le_of_ble_eq_true rfl, Nat.le_of_ble_eq_true rfl⟩ rfl ?_
    refine z_drop [some (2, 113), none, some (0, v2), some (0, 0)] ⟨rfl, rfl, rfl, trivial⟩ ?_
    exact h4.2.2
  · refine z_iload_n dX12_part_45 rfl ?_
    refine z_aload_n dX12_part_46 rfl ?_
    refine n_getp (ji := 24) dX12_part_47 zf_X12_60 k_113 rfl (by decide) rfl p_113_24 ?_
    refine z_iload_n dX12_part_50 rfl ?_
    refine n_zald dX12_part_51 k_130 (h.2 q2).1 ?_
    refine z_if_eq (tgt := 61) dX12_part_52 (by decide) (fun q6 => ?_) (fun q7 => ?_)
    · refine z_iconst dX12_part_61 ⟨by decide, by decide⟩ ?_
      refine z_ior dX12_part_62 ((h.2 q2).2.1 q6).1.1 ((h.2 q2).2.1 q6).1.2 ?_
      refine n_istore_n (lo' := [some (2, 113), some (0, v1), some (0, ((((v2 : Int).toNat ||| (0 : Int).toNat : Nat)) : Int)), some (0, v3)]) dX12_part_63 ⟨Nat.le_of_ble_eq_true rfl, Nat.le_of_ble_eq_true rfl⟩ rfl ?_
      refine n_iinc (lo' := [some (2, 113), some (0, v1), some (0, ((((v2 : Int).toNat ||| (0 : Int).toNat : Nat)) : Int)), some (0, v3 + 1)]) dX12_part_64 rfl (by decide) ((h.2 q2).2.1 q6).2.1 rfl ?_
      refine z_goto (tgt := 37) dX12_part_67 (by decide) ?_
      refine z_drop [some (2, 113), some (0, v1), some (0, ((((v2 : Int).toNat ||| (0 : Int).toNat : Nat)) : Int)), some (0, v3 + 1)] ⟨rfl, rfl, rfl, rfl, trivial⟩ ?_
      exact ((h.2 q2).2.1 q6).2.2
    · refine z_iconst dX12_part_55 ⟨by decide, by decide⟩ ?_
      refine z_iload_n dX12_part_56 rfl ?_
      refine n_ishl1 dX12_part_57 ((h.2 q2).2.2 q7).1 ?_
      refine z_goto (tgt := 62) dX12_part_58 (by decide) ?_
      refine z_ior dX12_part_62 ((h.2 q2).2.2 q7).2.1.1 ((h.2 q2).2.2 q7).2.1.2 ?_
      refine n_istore_n (lo' := [some (2, 113), some (0, v1), some (0, ((((v2 : Int).toNat ||| ((2 : Int) ^ (v3 : Int).toNat : Int).toNat : Nat)) : Int)), some (0, v3)]) dX12_part_63 ⟨Nat.le_of_ble_eq_true rfl, Nat.le_of_ble_eq_true rfl⟩ rfl ?_
      refine n_iinc (lo' := [some (2, 113), some (0, v1), some (0, ((((v2 : Int).toNat ||| ((2 : Int) ^ (v3 : Int).toNat : Int).toNat : Nat)) : Int)), some (0, v3 + 1)]) dX12_part_64 rfl (by decide) ((h.2 q2).2.2 q7).2.2.1 rfl ?_
      refine z_goto (tgt := 37) dX12_part_67 (by decide) ?_
      refine z_drop [some (2, 113), some (0, v1), some (0, ((((v2 : Int).toNat ||| ((2 : Int) ^ (v3 : Int).toNat : Int).toNat : Nat)) : Int)), some (0, v3 + 1)] ⟨rfl, rfl, rfl, rfl, trivial⟩ ?_
      exact ((h.2 q2).2.2 q7).2.2.2
set_option maxRecDepth 20000 in
theorem V_X12_part_104 {v2 v3 : Int}  {μ : z_Mem} {d : Nat} {K : Int → z_Mem → Prop} (h : (μ 113 21 ≤ v3 → K v2 μ) ∧ (v3 < μ 113 21 → ((0 : Int) ≤ v3 ∧ v3 < 30) ∧ ((μ 130 v3 = 0 → ((0 : Int) ≤ v2) ∧ (z_I (v3 + 1) ∧ (z_ri m_X12_part 104 [some (2, 113), none, some (0, ((((v2 : Int).toNat ^^^ ((v2 : Int).toNat &&& (0 : Int).toNat) : Nat)) : Int)), some (0, v3 + 1)] μ (d + 1) K))) ∧ (¬ μ 130 v3 = 0 → ((0 : Int) ≤ v3 ∧ v3 < 31) ∧ (((0 : Int) ≤ v2 ∧ (0 : Int) ≤ ((2 : Int) ^ (v3 : Int).toNat)) ∧ (z_I (v3 + 1) ∧ (z_ri m_X12_part 104 [some (2, 113), none, some (0, ((((v2 : Int).toNat ^^^ ((v2 : Int).toNat &&& (((2 : Int) ^ (v3 : Int).toNat) : Int).toNat) : Nat)) : Int)), some (0, v3 + 1)] μ (d + 1) K))))))) : z_ri m_X12_part 104 [some (2, 113), none, some (0, v2), some (0, v3)] μ (d + 1) K := by
  show z_R m_X12_part 104 [some (2, 113), none, some (0, v2), some (0, v3)] [] z_n μ (d + 1) _
  refine z_iload_n dX12_part_104 rfl ?_
  refine z_aload_n dX12_part_105 rfl ?_
  refine n_getf (ji := 21) (t := 0) dX12_part_106 zf_X12_205 k_113 rfl (by decide) rfl ?_
  refine z_icmp_ge (tgt := 139) dX12_part_109 (by decide) (fun q1 => ?_) (fun q2 => ?_)
  · refine z_iload_n dX12_part_139 rfl ?_
    exact z_ireturn dX12_part_140 rfl rfl ⟨_, rfl, (h.1 q1)⟩
  · refine z_iload_n dX12_part_112 rfl ?_
    refine z_aload_n dX12_part_113 rfl ?_
    refine n_getp (ji := 24) dX12_part_114 zf_X12_60 k_113 rfl (by decide) rfl p_113_24 ?_
    refine z_iload_n dX12_part_117 rfl ?_
    refine n_zald dX12_part_118 k_130 (h.2 q2).1 ?_
    refine z_if_eq (tgt := 130) dX12_part_119 (by decide) (fun q3 => ?_) (fun q4 => ?_)
    · refine z_iconst dX12_part_130 ⟨by decide, by decide⟩ ?_
      refine z_iandn dX12_part_131 0 rfl ((h.2 q2).2.1 q3).1 (by decide) ?_
      refine n_istore_n (lo' := [some (2, 113), none, some (0, ((((v2 : Int).toNat ^^^ ((v2 : Int).toNat &&& (0 : Int).toNat) : Nat)) : Int)), some (0, v3)]) dX12_part_132 ⟨Nat.le_of_ble_eq_true rfl, Nat.le_of_ble_eq_true rfl⟩ rfl ?_
      refine n_iinc (lo' := [some (2, 113), none, some (0, ((((v2 : Int).toNat ^^^ ((v2 : Int).toNat &&& (0 : Int).toNat) : Nat)) : Int)), some (0, v3 + 1)]) dX12_part_133 rfl (by decide) ((h.2 q2).2.1 q3).2.1 rfl ?_
      refine z_goto (tgt := 104) dX12_part_136 (by decide) ?_
      refine z_drop [some (2, 113), none, some (0, ((((v2 : Int).toNat ^^^ ((v2 : Int).toNat &&& (0 : Int).toNat) : Nat)) : Int)), some (0, v3 + 1)] ⟨rfl, rfl, rfl, trivial⟩ ?_
      exact ((h.2 q2).2.1 q3).2.2
    · refine z_iconst dX12_part_122 ⟨by decide, by decide⟩ ?_
      refine z_iload_n dX12_part_123 rfl ?_
      refine n_ishl1 dX12_part_124 ((h.2 q2).2.2 q4).1 ?_
      refine z_iconst dX12_part_125 ⟨by decide, by decide⟩ ?_
      refine z_ixorn dX12_part_126 rfl ?_
      refine z_goto (tgt := 131) dX12_part_127 (by decide) ?_
      refine z_iandn dX12_part_131 (((2 : Int) ^ (v3 : Int).toNat)) rfl ((h.2 q2).2.2 q4).2.1.1 ((h.2 q2).2.2 q4).2.1.2 ?_
      refine n_istore_n (lo' := [some (2, 113), none, some (0, ((((v2 : Int).toNat ^^^ ((v2 : Int).toNat &&& (((2 : Int) ^ (v3 : Int).toNat) : Int).toNat) : Nat)) : Int)), some (0, v3)]) dX12_part_132 ⟨Nat.le_of_ble_eq_true rfl, Nat.le_of_ble_eq_true rfl⟩ rfl ?_
      refine n_iinc (lo' := [some (2, 113), none, some (0, ((((v2 : Int).toNat ^^^ ((v2 : Int).toNat &&& (((2 : Int) ^ (v3 : Int).toNat) : Int).toNat) : Nat)) : Int)), some (0, v3 + 1)]) dX12_part_133 rfl (by decide) ((h.2 q2).2.2 q4).2.2.1 rfl ?_
      refine z_goto (tgt := 104) dX12_part_136 (by decide) ?_
      refine z_drop [some (2, 113), none, some (0, ((((v2 : Int).toNat ^^^ ((v2 : Int).toNat &&& (((2 : Int) ^ (v3 : Int).toNat) : Int).toNat) : Nat)) : Int)), some (0, v3 + 1)] ⟨rfl, rfl, rfl, trivial⟩ ?_
      exact ((h.2 q2).2.2 q4).2.2.2
set_option maxRecDepth 20000 in
theorem V_X12_way {a b c : Int}  {μ : z_Mem} {d : Nat} {K : Int → z_Mem → Prop} (h : z_ci m_X12_isFace [(2, 113), (0, a)] μ d (fun x3 m1 => (x3 = 0 → K (-1) m1) ∧ (¬ x3 = 0 → z_ci m_X12_isFace [(2, 113), (0, b)] m1 d (fun x8 m6 => (x8 = 0 → K (-1) m6) ∧ (¬ x8 = 0 → ((-1) ≤ c → z_ci m_X12_areJoined [(2, 113), (0, b), (0, a)] m6 d (fun x15 m13 => (¬ x15 = 0 → z_ri m_X12_way 41 [some (2, 113), none, some (0, b), some (0, c), some (0, 0), some (0, a)] m13 (d + 1) K) ∧ (x15 = 0 → K (-3) m13))) ∧ (c < (-1) → K (-1) m6)))))) : z_ci m_X12_way [(2, 113), (0, a), (0, b), (0, c)] μ (d + 1) K := by
  show z_R m_X12_way 0 [some (2, 113), some (0, a), some (0, b), some (0, c), none, none] [] z_n μ (d + 1) _
  refine z_aload_n dX12_way_0 rfl ?_
  refine z_iload_n dX12_way_1 rfl ?_
  refine n_vI (as := [(0, a)]) (rest := []) dX12_way_2 zm_X12_isFace zs_X12_278 k_113 (by decide) rfl rfl (Nat.le_of_ble_eq_true rfl) (Nat.le_of_ble_eq_true rfl) h (fun x3 m1 h2 => ?_)
  refine z_if_eq (tgt := 21) dX12_way_5 (by decide) (fun q4 => ?_) (fun q5 => ?_)
  · refine z_iconst dX12_way_21 ⟨by decide, by decide⟩ ?_
    exact z_ireturn dX12_way_22 rfl rfl ⟨_, rfl, (h2.1 q4)⟩
  · refine z_aload_n dX12_way_8 rfl ?_
    refine z_iload_n dX12_way_9 rfl ?_
    refine n_vI (as := [(0, b)]) (rest := []) dX12_way_10 zm_X12_isFace zs_X12_278 k_113 (by decide) rfl rfl (Nat.le_of_ble_eq_true rfl) (Nat.le_of_ble_eq_true rfl) (h2.2 q5) (fun x8 m6 h7 => ?_)
    refine z_if_eq (tgt := 21) dX12_way_13 (by decide) (fun q9 => ?_) (fun q10 => ?_)
    · refine z_iconst dX12_way_21 ⟨by decide, by decide⟩ ?_
      exact z_ireturn dX12_way_22 rfl rfl ⟨_, rfl, (h7.1 q9)⟩
    · refine z_iload_n dX12_way_16 rfl ?_
      refine z_iconst dX12_way_17 ⟨by decide, by decide⟩ ?_
      refine z_icmp_ge (tgt := 23) dX12_way_18 (by decide) (fun q11 => ?_) (fun q12 => ?_)
      · refine z_aload_n dX12_way_23 rfl ?_
        refine z_iload_n dX12_way_24 rfl ?_
        refine z_iload_n dX12_way_25 rfl ?_
        refine n_vI (as := [(0, b), (0, a)]) (rest := []) dX12_way_26 zm_X12_areJoined zs_X12_272 k_113 (by decide) rfl rfl (Nat.le_of_ble_eq_true rfl) (Nat.le_of_ble_eq_true rfl) ((h7.2 q10).1 q11) (fun x15 m13 h14 => ?_)
        refine z_if_ne (tgt := 35) dX12_way_29 (by decide) (fun q16 => ?_) (fun q17 => ?_)
        · refine z_iconst dX12_way_35 ⟨by decide, by decide⟩ ?_
          refine n_istore (lo' := [some (2, 113), some (0, a), some (0, b), some (0, c), some (0, 0), none]) dX12_way_36 ⟨Nat.le_of_ble_eq_true rfl, Nat.le_of_ble_eq_true rfl⟩ rfl ?_
          refine z_iload_n dX12_way_38 rfl ?_
          refine n_istore (lo' := [some (2, 113), some (0, a), some (0, b), some (0, c), some (0, 0), some (0, a)]) dX12_way_39 ⟨Nat.le_of_ble_eq_true rfl, Nat.le_of_ble_eq_true rfl⟩ rfl ?_
          refine z_drop [some (2, 113), none, some (0, b), some (0, c), some (0, 0), some (0, a)] ⟨rfl, rfl, rfl, rfl, rfl, trivial⟩ ?_
          exact (h14.1 q16)
        · refine z_bipush dX12_way_32 (by decide) ?_
          exact z_ireturn dX12_way_34 rfl rfl ⟨_, rfl, (h14.2 q17)⟩
      · refine z_iconst dX12_way_21 ⟨by decide, by decide⟩ ?_
        exact z_ireturn dX12_way_22 rfl rfl ⟨_, rfl, ((h7.2 q10).2 q12)⟩
set_option maxRecDepth 20000 in
theorem V_X12_way_41 {v2 v3 v4 v5 : Int}  {μ : z_Mem} {d : Nat} {K : Int → z_Mem → Prop} (h : (v5 = v2 → (¬ v3 = (-1) → (¬ v4 = v3 → K (-2) μ) ∧ (v4 = v3 → K v5 μ)) ∧ (v3 = (-1) → K v4 μ)) ∧ (¬ v5 = v2 → (v4 = v3 → (¬ v3 = (-1) → (¬ v4 = v3 → K (-2) μ) ∧ (v4 = v3 → K v5 μ)) ∧ (v3 = (-1) → K v4 μ)) ∧ (¬ v4 = v3 → ((0 : Int) ≤ v5 ∧ v5 < 30) ∧ (((0 : Int) ≤ μ 132 v5) ∧ (z_I (v4 + 1) ∧ (z_ri m_X12_way 41 [some (2, 113), none, some (0, v2), some (0, v3), some (0, v4 + 1), some (0, (μ 132 v5) / 4)] μ (d + 1) K)))))) : z_ri m_X12_way 41 [some (2, 113), none, some (0, v2), some (0, v3), some (0, v4), some (0, v5)] μ (d + 1) K := by
  show z_R m_X12_way 41 [some (2, 113), none, some (0, v2), some (0, v3), some (0, v4), some (0, v5)] [] z_n μ (d + 1) _
  refine z_iload dX12_way_41 rfl ?_
  refine z_iload_n dX12_way_43 rfl ?_
  refine z_icmp_eq (tgt := 70) dX12_way_44 (by decide) (fun q1 => ?_) (fun q2 => ?_)
  · refine z_iload_n dX12_way_70 rfl ?_
    refine z_iconst dX12_way_71 ⟨by decide, by decide⟩ ?_
    refine z_icmp_ne (tgt := 80) dX12_way_72 (by decide) (fun q3 => ?_) (fun q4 => ?_)
    · refine z_iload dX12_way_80 rfl ?_
      refine z_iload_n dX12_way_82 rfl ?_
      refine z_icmp_ne (tgt := 91) dX12_way_83 (by decide) (fun q5 => ?_) (fun q6 => ?_)
      · refine z_bipush dX12_way_91 (by decide) ?_
        exact z_ireturn dX12_way_93 rfl rfl ⟨_, rfl, (((h.1 q1).1 q3).1 q5)⟩
      · refine z_iload dX12_way_86 rfl ?_
        refine z_goto (tgt := 93) dX12_way_88 (by decide) ?_
        exact z_ireturn dX12_way_93 rfl rfl ⟨_, rfl, (((h.1 q1).1 q3).2 q6)⟩
    · refine z_iload dX12_way_75 rfl ?_
      refine z_goto (tgt := 93) dX12_way_77 (by decide) ?_
      exact z_ireturn dX12_way_93 rfl rfl ⟨_, rfl, ((h.1 q1).2 q4)⟩
  · refine z_iload dX12_way_47 rfl ?_
    refine z_iload_n dX12_way_49 rfl ?_
    refine z_icmp_eq (tgt := 70) dX12_way_50 (by decide) (fun q7 => ?_) (fun q8 => ?_)
    · refine z_iload_n dX12_way_70 rfl ?_
      refine z_iconst dX12_way_71 ⟨by decide, by decide⟩ ?_
      refine z_icmp_ne (tgt := 80) dX12_way_72 (by decide) (fun q9 => ?_) (fun q10 => ?_)
      · refine z_iload dX12_way_80 rfl ?_
        refine z_iload_n dX12_way_82 rfl ?_
        refine z_icmp_ne (tgt := 91) dX12_way_83 (by decide) (fun q11 => ?_) (fun q12 => ?_)
        · refine z_bipush dX12_way_91 (by decide) ?_
          exact z_ireturn dX12_way_93 rfl rfl ⟨_, rfl, ((((h.2 q2).1 q7).1 q9).1 q11)⟩
        · refine z_iload dX12_way_86 rfl ?_
          refine z_goto (tgt := 93) dX12_way_88 (by decide) ?_
          exact z_ireturn dX12_way_93 rfl rfl ⟨_, rfl, ((((h.2 q2).1 q7).1 q9).2 q12)⟩
      · refine z_iload dX12_way_75 rfl ?_
        refine z_goto (tgt := 93) dX12_way_77 (by decide) ?_
        exact z_ireturn dX12_way_93 rfl rfl ⟨_, rfl, (((h.2 q2).1 q7).2 q10)⟩
    · refine z_aload_n dX12_way_53 rfl ?_
      refine n_getp (ji := 26) dX12_way_54 zf_X12_66 k_113 rfl (by decide) rfl p_113_26 ?_
      refine z_iload dX12_way_57 rfl ?_
      refine n_iald dX12_way_59 k_132 ((h.2 q2).2 q8).1 ?_
      refine z_iconst dX12_way_60 ⟨by decide, by decide⟩ ?_
      refine z_idiv dX12_way_61 ((h.2 q2).2 q8).2.1 (by decide) ?_
      refine n_istore (lo' := [some (2, 113), none, some (0, v2), some (0, v3), some (0, v4), some (0, (μ 132 v5) / 4)]) dX12_way_62 ⟨Nat.le_of_ble_eq_true rfl, Nat.le_of_ble_eq_true rfl⟩ rfl ?_
      refine n_iinc (lo' := [some (2, 113), none, some (0, v2), some (0, v3), some (0, v4 + 1), some (0, (μ 132 v5) / 4)]) dX12_way_64 rfl (by decide) ((h.2 q2).2 q8).2.2.1 rfl ?_
      refine z_goto (tgt := 41) dX12_way_67 (by decide) ?_
      refine z_drop [some (2, 113), none, some (0, v2), some (0, v3), some (0, v4 + 1), some (0, (μ 132 v5) / 4)] ⟨rfl, rfl, rfl, rfl, rfl, trivial⟩ ?_
      exact ((h.2 q2).2 q8).2.2.2
set_option maxRecDepth 20000 in
theorem V_X12_free {a : Int}  {μ : z_Mem} {d : Nat} {K : Int → z_Mem → Prop} (h : ((-1) ≤ a → z_ci m_X12_places [(2, 113)] μ d (fun x5 m3 => z_ri m_X12_free 16 [some (2, 113), some (0, a), some (0, 0), some (0, 0)] m3 (d + 1) K)) ∧ (a < (-1) → K (-1) μ)) : z_ci m_X12_free [(2, 113), (0, a)] μ (d + 1) K := by
  show z_R m_X12_free 0 [some (2, 113), some (0, a), none, none] [] z_n μ (d + 1) _
  refine z_iload_n dX12_free_0 rfl ?_
  refine z_iconst dX12_free_1 ⟨by decide, by decide⟩ ?_
  refine z_icmp_ge (tgt := 7) dX12_free_2 (by decide) (fun q1 => ?_) (fun q2 => ?_)
  · refine z_aload_n dX12_free_7 rfl ?_
    refine n_vI (as := []) (rest := []) dX12_free_8 zm_X12_places zs_X12_304 k_113 (by decide) rfl rfl (Nat.le_of_ble_eq_true rfl) (Nat.le_of_ble_eq_true rfl) (h.1 q1) (fun x5 m3 h4 => ?_)
    refine z_pop dX12_free_11 rfl ?_
    refine z_iconst dX12_free_12 ⟨by decide, by decide⟩ ?_
    refine n_istore_n (lo' := [some (2, 113), some (0, a), some (0, 0), none]) dX12_free_13 ⟨Nat.le_of_ble_eq_true rfl, Nat.le_of_ble_eq_true rfl⟩ rfl ?_
    refine z_iconst dX12_free_14 ⟨by decide, by decide⟩ ?_
    refine n_istore_n (lo' := [some (2, 113), some (0, a), some (0, 0), some (0, 0)]) dX12_free_15 ⟨Nat.le_of_ble_eq_true rfl, Nat.le_of_ble_eq_true rfl⟩ rfl ?_
    refine z_drop [some (2, 113), some (0, a), some (0, 0), some (0, 0)] ⟨rfl, rfl, rfl, rfl, trivial⟩ ?_
    exact h4
  · refine z_iconst dX12_free_5 ⟨by decide, by decide⟩ ?_
    exact z_ireturn dX12_free_6 rfl rfl ⟨_, rfl, (h.2 q2)⟩
set_option maxRecDepth 20000 in
theorem V_X12_free_16 {v1 v2 v3 : Int}  {μ : z_Mem} {d : Nat} {K : Int → z_Mem → Prop} (h : (μ 113 22 ≤ v3 → (¬ v1 = (-1) → K (-2) μ) ∧ (v1 = (-1) → K v2 μ)) ∧ (v3 < μ 113 22 → z_ci m_X12_isFree [(2, 113), (0, v3)] μ d (fun x7 m5 => (¬ x7 = 0 → (¬ v2 = v1 → z_I (v2 + 1) ∧ (z_I (v3 + 1) ∧ (z_ri m_X12_free 16 [some (2, 113), some (0, v1), some (0, v2 + 1), some (0, v3 + 1)] m5 (d + 1) K))) ∧ (v2 = v1 → K v3 m5)) ∧ (x7 = 0 → z_I (v3 + 1) ∧ (z_ri m_X12_free 16 [some (2, 113), some (0, v1), some (0, v2), some (0, v3 + 1)] m5 (d + 1) K))))) : z_ri m_X12_free 16 [some (2, 113), some (0, v1), some (0, v2), some (0, v3)] μ (d + 1) K := by
  show z_R m_X12_free 16 [some (2, 113), some (0, v1), some (0, v2), some (0, v3)] [] z_n μ (d + 1) _
  refine z_iload_n dX12_free_16 rfl ?_
  refine z_aload_n dX12_free_17 rfl ?_
  refine n_getf (ji := 22) (t := 0) dX12_free_18 zf_X12_245 k_113 rfl (by decide) rfl ?_
  refine z_icmp_ge (tgt := 51) dX12_free_21 (by decide) (fun q1 => ?_) (fun q2 => ?_)
  · refine z_iload_n dX12_free_51 rfl ?_
    refine z_iconst dX12_free_52 ⟨by decide, by decide⟩ ?_
    refine z_icmp_ne (tgt := 60) dX12_free_53 (by decide) (fun q3 => ?_) (fun q4 => ?_)
    · refine z_bipush dX12_free_60 (by decide) ?_
      exact z_ireturn dX12_free_62 rfl rfl ⟨_, rfl, ((h.1 q1).1 q3)⟩
    · refine z_iload_n dX12_free_56 rfl ?_
      refine z_goto (tgt := 62) dX12_free_57 (by decide) ?_
      exact z_ireturn dX12_free_62 rfl rfl ⟨_, rfl, ((h.1 q1).2 q4)⟩
  · refine z_aload_n dX12_free_24 rfl ?_
    refine z_iload_n dX12_free_25 rfl ?_
    refine n_vI (as := [(0, v3)]) (rest := []) dX12_free_26 zm_X12_isFree zs_X12_353 k_113 (by decide) rfl rfl (Nat.le_of_ble_eq_true rfl) (Nat.le_of_ble_eq_true rfl) (h.2 q2) (fun x7 m5 h6 => ?_)
    refine z_if_ne (tgt := 35) dX12_free_29 (by decide) (fun q8 => ?_) (fun q9 => ?_)
    · refine z_iload_n dX12_free_35 rfl ?_
      refine z_iload_n dX12_free_36 rfl ?_
      refine z_icmp_ne (tgt := 42) dX12_free_37 (by decide) (fun q10 => ?_) (fun q11 => ?_)
      · refine n_iinc (lo' := [some (2, 113), some (0, v1), some (0, v2 + 1), some (0, v3)]) dX12_free_42 rfl (by decide) ((h6.1 q8).1 q10).1 rfl ?_
        refine n_iinc (lo' := [some (2, 113), some (0, v1), some (0, v2 + 1), some (0, v3 + 1)]) dX12_free_45 rfl (by decide) ((h6.1 q8).1 q10).2.1 rfl ?_
        refine z_goto (tgt := 16) dX12_free_48 (by decide) ?_
        refine z_drop [some (2, 113), some (0, v1), some (0, v2 + 1), some (0, v3 + 1)] ⟨rfl, rfl, rfl, rfl, trivial⟩ ?_
        exact ((h6.1 q8).1 q10).2.2
      · refine z_iload_n dX12_free_40 rfl ?_
        exact z_ireturn dX12_free_41 rfl rfl ⟨_, rfl, ((h6.1 q8).2 q11)⟩
    · refine z_goto (tgt := 45) dX12_free_32 (by decide) ?_
      refine n_iinc (lo' := [some (2, 113), some (0, v1), some (0, v2), some (0, v3 + 1)]) dX12_free_45 rfl (by decide) (h6.2 q9).1 rfl ?_
      refine z_goto (tgt := 16) dX12_free_48 (by decide) ?_
      refine z_drop [some (2, 113), some (0, v1), some (0, v2), some (0, v3 + 1)] ⟨rfl, rfl, rfl, rfl, trivial⟩ ?_
      exact (h6.2 q9).2
set_option maxRecDepth 20000 in
theorem V_X12_nextSide {a : Int}  {μ : z_Mem} {d : Nat} {K : Int → z_Mem → Prop} (h : ((0 : Int) ≤ a) ∧ (z_I ((a / 4) * 4) ∧ (z_I (a + 1) ∧ (((0 : Int) ≤ a + 1) ∧ (z_I (((a / 4) * 4) + ((a + 1) % 4)) ∧ (K (((a / 4) * 4) + ((a + 1) % 4)) μ)))))) : z_ci m_X12_nextSide [(0, a)] μ d K := by
  show z_R m_X12_nextSide 0 [some (0, a)] [] z_n μ d _
  refine z_iload_n dX12_nextSide_0 rfl ?_
  refine z_iconst dX12_nextSide_1 ⟨by decide, by decide⟩ ?_
  refine z_idiv dX12_nextSide_2 h.1 (by decide) ?_
  refine z_iconst dX12_nextSide_3 ⟨by decide, by decide⟩ ?_
  refine z_imul dX12_nextSide_4 h.2.1 ?_
  refine z_iload_n dX12_nextSide_5 rfl ?_
  refine z_iconst dX12_nextSide_6 ⟨by decide, by decide⟩ ?_
  refine z_iadd dX12_nextSide_7 h.2.2.1 ?_
  refine z_iconst dX12_nextSide_8 ⟨by decide, by decide⟩ ?_
  refine z_irem dX12_nextSide_9 h.2.2.2.1 (by decide) ?_
  refine z_iadd dX12_nextSide_10 h.2.2.2.2.1 ?_
  exact z_ireturn dX12_nextSide_11 rfl rfl ⟨_, rfl, h.2.2.2.2.2⟩
set_option maxRecDepth 20000 in
theorem V_X12_isCutSide {a : Int}  {μ : z_Mem} {d : Nat} {K : Int → z_Mem → Prop} (h : ((0 : Int) ≤ a ∧ a < 120) ∧ (z_ci m_X12_isHinge [(2, 113), (0, μ 126 a)] μ d (fun x3 m1 => (¬ x3 = 0 → K 0 m1) ∧ (x3 = 0 → K 1 m1)))) : z_ci m_X12_isCutSide [(2, 113), (0, a)] μ (d + 1) K := by
  show z_R m_X12_isCutSide 0 [some (2, 113), some (0, a)] [] z_n μ (d + 1) _
  refine z_aload_n dX12_isCutSide_0 rfl ?_
  refine z_aload_n dX12_isCutSide_1 rfl ?_
  refine n_getp (ji := 17) dX12_isCutSide_2 zf_X12_48 k_113 rfl (by decide) rfl p_113_17 ?_
  refine z_iload_n dX12_isCutSide_5 rfl ?_
  refine n_iald dX12_isCutSide_6 k_126 h.1 ?_
  refine n_vI (as := [(0, μ 126 a)]) (rest := []) dX12_isCutSide_7 zm_X12_isHinge zs_X12_257 k_113 (by decide) rfl rfl (Nat.le_of_ble_eq_true rfl) (Nat.le_of_ble_eq_true rfl) h.2 (fun x3 m1 h2 => ?_)
  refine z_if_ne (tgt := 17) dX12_isCutSide_10 (by decide) (fun q4 => ?_) (fun q5 => ?_)
  · refine z_iconst dX12_isCutSide_17 ⟨by decide, by decide⟩ ?_
    exact z_zreturn dX12_isCutSide_18 rfl rfl (by decide) ⟨_, rfl, (h2.1 q4)⟩
  · refine z_iconst dX12_isCutSide_13 ⟨by decide, by decide⟩ ?_
    refine z_goto (tgt := 18) dX12_isCutSide_14 (by decide) ?_
    exact z_zreturn dX12_isCutSide_18 rfl rfl (by decide) ⟨_, rfl, (h2.2 q5)⟩
set_option maxRecDepth 20000 in
theorem V_X12_laysRim  {μ : z_Mem} {d : Nat} {K : Int → z_Mem → Prop} (h : z_ci m_X12_isWhole [(2, 113)] μ d (fun x3 m1 => (¬ x3 = 0 → z_ri m_X12_laysRim 11 [some (2, 113), some (0, 0), none, none, none] m1 (d + 1) K) ∧ (x3 = 0 → K 0 m1))) : z_ci m_X12_laysRim [(2, 113)] μ (d + 1) K := by
  show z_R m_X12_laysRim 0 [some (2, 113), none, none, none, none] [] z_n μ (d + 1) _
  refine z_aload_n dX12_laysRim_0 rfl ?_
  refine n_vI (as := []) (rest := []) dX12_laysRim_1 zm_X12_isWhole zs_X12_325 k_113 (by decide) rfl rfl (Nat.le_of_ble_eq_true rfl) (Nat.le_of_ble_eq_true rfl) h (fun x3 m1 h2 => ?_)
  refine z_if_ne (tgt := 9) dX12_laysRim_4 (by decide) (fun q4 => ?_) (fun q5 => ?_)
  · refine z_iconst dX12_laysRim_9 ⟨by decide, by decide⟩ ?_
    refine n_istore_n (lo' := [some (2, 113), some (0, 0), none, none, none]) dX12_laysRim_10 ⟨Nat.le_of_ble_eq_true rfl, Nat.le_of_ble_eq_true rfl⟩ rfl ?_
    refine z_drop [some (2, 113), some (0, 0), none, none, none] ⟨rfl, rfl, trivial⟩ ?_
    exact (h2.1 q4)
  · refine z_iconst dX12_laysRim_7 ⟨by decide, by decide⟩ ?_
    exact z_zreturn dX12_laysRim_8 rfl rfl (by decide) ⟨_, rfl, (h2.2 q5)⟩
set_option maxRecDepth 20000 in
theorem V_X12_laysRim_11 {v1 : Int}  {μ : z_Mem} {d : Nat} {K : Int → z_Mem → Prop} (h : z_ci m_X12_isCutSide [(2, 113), (0, v1)] μ d (fun x3 m1 => (¬ x3 = 0 → z_ri m_X12_laysRim 34 [some (2, 113), some (0, v1), some (0, v1), some (0, 1), none] (z_st m1 113 41 0) (d + 1) K) ∧ (x3 = 0 → z_I (v1 + 1) ∧ (z_ri m_X12_laysRim 11 [some (2, 113), some (0, v1 + 1), none, none, none] m1 (d + 1) K)))) : z_ri m_X12_laysRim 11 [some (2, 113), some (0, v1), none, none, none] μ (d + 1) K := by
  show z_R m_X12_laysRim 11 [some (2, 113), some (0, v1), none, none, none] [] z_n μ (d + 1) _
  refine z_aload_n dX12_laysRim_11 rfl ?_
  refine z_iload_n dX12_laysRim_12 rfl ?_
  refine n_vI (as := [(0, v1)]) (rest := []) dX12_laysRim_13 zm_X12_isCutSide zs_X12_359 k_113 (by decide) rfl rfl (Nat.le_of_ble_eq_true rfl) (Nat.le_of_ble_eq_true rfl) h (fun x3 m1 h2 => ?_)
  refine z_if_ne (tgt := 25) dX12_laysRim_16 (by decide) (fun q4 => ?_) (fun q5 => ?_)
  · refine z_aload_n dX12_laysRim_25 rfl ?_
    refine z_iconst dX12_laysRim_26 ⟨by decide, by decide⟩ ?_
    refine n_putI (ji := 41) dX12_laysRim_27 zf_X12_362 k_113 rfl (by decide) rfl ?_
    refine z_iload_n dX12_laysRim_30 rfl ?_
    refine n_istore_n (lo' := [some (2, 113), some (0, v1), some (0, v1), none, none]) dX12_laysRim_31 ⟨Nat.le_of_ble_eq_true rfl, Nat.le_of_ble_eq_true rfl⟩ rfl ?_
    refine z_iconst dX12_laysRim_32 ⟨by decide, by decide⟩ ?_
    refine n_istore_n (lo' := [some (2, 113), some (0, v1), some (0, v1), some (0, 1), none]) dX12_laysRim_33 ⟨Nat.le_of_ble_eq_true rfl, Nat.le_of_ble_eq_true rfl⟩ rfl ?_
    refine z_drop [some (2, 113), some (0, v1), some (0, v1), some (0, 1), none] ⟨rfl, rfl, rfl, rfl, trivial⟩ ?_
    exact (h2.1 q4)
  · refine n_iinc (lo' := [some (2, 113), some (0, v1 + 1), none, none, none]) dX12_laysRim_19 rfl (by decide) (h2.2 q5).1 rfl ?_
    refine z_goto (tgt := 11) dX12_laysRim_22 (by decide) ?_
    refine z_drop [some (2, 113), some (0, v1 + 1), none, none, none] ⟨rfl, rfl, trivial⟩ ?_
    exact (h2.2 q5).2
set_option maxRecDepth 20000 in
theorem V_X12_laysRim_34 {v1 v2 v3 : Int}  {μ : z_Mem} {d : Nat} {K : Int → z_Mem → Prop} (h : (v3 = 0 → K 1 μ) ∧ (¬ v3 = 0 → ((0 : Int) ≤ μ 113 41 ∧ μ 113 41 < 120) ∧ (z_I (((z_st μ 140 (μ 113 41) v2) 113 41) + 1) ∧ (z_ci m_X12_nextSide [(0, v2)] (z_st (z_st μ 140 (μ 113 41) v2) 113 41 (((z_st μ 140 (μ 113 41) v2) 113 41) + 1)) d (fun x5 m3 => z_ri m_X12_laysRim 66 [some (2, 113), some (0, v1), some (0, x5), none, some (0, 1)] m3 (d + 1) K))))) : z_ri m_X12_laysRim 34 [some (2, 113), some (0, v1), some (0, v2), some (0, v3), none] μ (d + 1) K := by
  show z_R m_X12_laysRim 34 [some (2, 113), some (0, v1), some (0, v2), some (0, v3), none] [] z_n μ (d + 1) _
  refine z_iload_n dX12_laysRim_34 rfl ?_
  refine z_if_eq (tgt := 122) dX12_laysRim_35 (by decide) (fun q1 => ?_) (fun q2 => ?_)
  · refine z_iconst dX12_laysRim_122 ⟨by decide, by decide⟩ ?_
    exact z_zreturn dX12_laysRim_123 rfl rfl (by decide) ⟨_, rfl, (h.1 q1)⟩
  · refine z_aload_n dX12_laysRim_38 rfl ?_
    refine n_getp (ji := 39) dX12_laysRim_39 zf_X12_90 k_113 rfl (by decide) rfl p_113_39 ?_
    refine z_aload_n dX12_laysRim_42 rfl ?_
    refine n_getf (ji := 41) (t := 0) dX12_laysRim_43 zf_X12_362 k_113 rfl (by decide) rfl ?_
    refine z_iload_n dX12_laysRim_46 rfl ?_
    refine n_iast dX12_laysRim_47 k_140 (h.2 q2).1 ?_
    refine z_aload_n dX12_laysRim_48 rfl ?_
    refine z_dup dX12_laysRim_49 rfl ?_
    refine n_getf (ji := 41) (t := 0) dX12_laysRim_50 zf_X12_362 k_113 rfl (by decide) rfl ?_
    refine z_iconst dX12_laysRim_53 ⟨by decide, by decide⟩ ?_
    refine z_iadd dX12_laysRim_54 (h.2 q2).2.1 ?_
    refine n_putI (ji := 41) dX12_laysRim_55 zf_X12_362 k_113 rfl (by decide) rfl ?_
    refine z_iconst dX12_laysRim_58 ⟨by decide, by decide⟩ ?_
    refine n_istore (lo' := [some (2, 113), some (0, v1), some (0, v2), some (0, v3), some (0, 1)]) dX12_laysRim_59 ⟨Nat.le_of_ble_eq_true rfl, Nat.le_of_ble_eq_true rfl⟩ rfl ?_
    refine z_iload_n dX12_laysRim_61 rfl ?_
    refine n_sI (as := [(0, v2)]) (rest := []) dX12_laysRim_62 zm_X12_nextSide zs_X12_365 rfl rfl (Nat.le_of_ble_eq_true rfl) (Nat.le_of_ble_eq_true rfl) (h.2 q2).2.2 (fun x5 m3 h4 => ?_)
    refine n_istore_n (lo' := [some (2, 113), some (0, v1), some (0, x5), some (0, v3), some (0, 1)]) dX12_laysRim_65 ⟨Nat.le_of_ble_eq_true rfl, Nat.le_of_ble_eq_true rfl⟩ rfl ?_
    refine z_drop [some (2, 113), some (0, v1), some (0, x5), none, some (0, 1)] ⟨rfl, rfl, rfl, rfl, trivial⟩ ?_
    exact h4
set_option maxRecDepth 20000 in
theorem V_X12_laysRim_66 {v1 v2 v4 : Int}  {μ : z_Mem} {d : Nat} {K : Int → z_Mem → Prop} (h : z_ci m_X12_isCutSide [(2, 113), (0, v2)] μ d (fun x3 m1 => (¬ x3 = 0 → (v2 = v1 → z_ri m_X12_laysRim 34 [some (2, 113), some (0, v1), some (0, v2), some (0, 0), none] (z_st m1 141 0 v4) (d + 1) K) ∧ (¬ v2 = v1 → ((0 : Int) ≤ m1 113 41 ∧ m1 113 41 < 120) ∧ (z_ri m_X12_laysRim 34 [some (2, 113), some (0, v1), some (0, v2), some (0, 1), none] (z_st m1 141 (m1 113 41) v4) (d + 1) K))) ∧ (x3 = 0 → z_ci m_X12_mate [(2, 113), (0, v2)] m1 d (fun x12 m10 => z_ci m_X12_nextSide [(0, x12)] m10 d (fun x15 m13 => z_I (v4 + 1) ∧ (z_ri m_X12_laysRim 66 [some (2, 113), some (0, v1), some (0, x15), none, some (0, v4 + 1)] m13 (d + 1) K)))))) : z_ri m_X12_laysRim 66 [some (2, 113), some (0, v1), some (0, v2), none, some (0, v4)] μ (d + 1) K := by
  show z_R m_X12_laysRim 66 [some (2, 113), some (0, v1), some (0, v2), none, some (0, v4)] [] z_n μ (d + 1) _
  refine z_aload_n dX12_laysRim_66 rfl ?_
  refine z_iload_n dX12_laysRim_67 rfl ?_
  refine n_vI (as := [(0, v2)]) (rest := []) dX12_laysRim_68 zm_X12_isCutSide zs_X12_359 k_113 (by decide) rfl rfl (Nat.le_of_ble_eq_true rfl) (Nat.le_of_ble_eq_true rfl) h (fun x3 m1 h2 => ?_)
  refine z_if_ne (tgt := 89) dX12_laysRim_71 (by decide) (fun q4 => ?_) (fun q5 => ?_)
  · refine z_iload_n dX12_laysRim_89 rfl ?_
    refine z_iload_n dX12_laysRim_90 rfl ?_
    refine z_icmp_eq (tgt := 98) dX12_laysRim_91 (by decide) (fun q6 => ?_) (fun q7 => ?_)
    · refine z_iconst dX12_laysRim_98 ⟨by decide, by decide⟩ ?_
      refine n_istore_n (lo' := [some (2, 113), some (0, v1), some (0, v2), some (0, 0), some (0, v4)]) dX12_laysRim_99 ⟨Nat.le_of_ble_eq_true rfl, Nat.le_of_ble_eq_true rfl⟩ rfl ?_
      refine z_aload_n dX12_laysRim_100 rfl ?_
      refine n_getp (ji := 40) dX12_laysRim_101 zf_X12_93 k_113 rfl (by decide) rfl p_113_40 ?_
      refine z_iload_n dX12_laysRim_104 rfl ?_
      refine z_if_eq (tgt := 115) dX12_laysRim_105 (by decide) (fun _ => ?_) (fun q8 => absurd q8 (by decide))
      refine z_iconst dX12_laysRim_115 ⟨by decide, by decide⟩ ?_
      refine z_iload dX12_laysRim_116 rfl ?_
      refine n_iast dX12_laysRim_118 k_141 (by decide) ?_
      refine z_goto (tgt := 34) dX12_laysRim_119 (by decide) ?_
      refine z_drop [some (2, 113), some (0, v1), some (0, v2), some (0, 0), none] ⟨rfl, rfl, rfl, rfl, trivial⟩ ?_
      exact ((h2.1 q4).1 q6)
    · refine z_iconst dX12_laysRim_94 ⟨by decide, by decide⟩ ?_
      refine z_goto (tgt := 99) dX12_laysRim_95 (by decide) ?_
      refine n_istore_n (lo' := [some (2, 113), some (0, v1), some (0, v2), some (0, 1), some (0, v4)]) dX12_laysRim_99 ⟨Nat.le_of_ble_eq_true rfl, Nat.le_of_ble_eq_true rfl⟩ rfl ?_
      refine z_aload_n dX12_laysRim_100 rfl ?_
      refine n_getp (ji := 40) dX12_laysRim_101 zf_X12_93 k_113 rfl (by decide) rfl p_113_40 ?_
      refine z_iload_n dX12_laysRim_104 rfl ?_
      refine z_if_eq (tgt := 115) dX12_laysRim_105 (by decide) (fun q9 => absurd q9 (by decide)) (fun _ => ?_)
      refine z_aload_n dX12_laysRim_108 rfl ?_
      refine n_getf (ji := 41) (t := 0) dX12_laysRim_109 zf_X12_362 k_113 rfl (by decide) rfl ?_
      refine z_goto (tgt := 116) dX12_laysRim_112 (by decide) ?_
      refine z_iload dX12_laysRim_116 rfl ?_
      refine n_iast dX12_laysRim_118 k_141 ((h2.1 q4).2 q7).1 ?_
      refine z_goto (tgt := 34) dX12_laysRim_119 (by decide) ?_
      refine z_drop [some (2, 113), some (0, v1), some (0, v2), some (0, 1), none] ⟨rfl, rfl, rfl, rfl, trivial⟩ ?_
      exact ((h2.1 q4).2 q7).2
  · refine z_aload_n dX12_laysRim_74 rfl ?_
    refine z_iload_n dX12_laysRim_75 rfl ?_
    refine n_vI (as := [(0, v2)]) (rest := []) dX12_laysRim_76 zm_X12_mate zs_X12_248 k_113 (by decide) rfl rfl (Nat.le_of_ble_eq_true rfl) (Nat.le_of_ble_eq_true rfl) (h2.2 q5) (fun x12 m10 h11 => ?_)
    refine n_sI (as := [(0, x12)]) (rest := []) dX12_laysRim_79 zm_X12_nextSide zs_X12_365 rfl rfl (Nat.le_of_ble_eq_true rfl) (Nat.le_of_ble_eq_true rfl) h11 (fun x15 m13 h14 => ?_)
    refine n_istore_n (lo' := [some (2, 113), some (0, v1), some (0, x15), none, some (0, v4)]) dX12_laysRim_82 ⟨Nat.le_of_ble_eq_true rfl, Nat.le_of_ble_eq_true rfl⟩ rfl ?_
    refine n_iinc (lo' := [some (2, 113), some (0, v1), some (0, x15), none, some (0, v4 + 1)]) dX12_laysRim_83 rfl (by decide) h14.1 rfl ?_
    refine z_goto (tgt := 66) dX12_laysRim_86 (by decide) ?_
    refine z_drop [some (2, 113), some (0, v1), some (0, x15), none, some (0, v4 + 1)] ⟨rfl, rfl, rfl, rfl, trivial⟩ ?_
    exact h14.2
set_option maxRecDepth 20000 in
theorem V_X12_partner {a : Int}  {μ : z_Mem} {d : Nat} {K : Int → z_Mem → Prop} (h : ((0 : Int) ≤ a ∧ a < 120) ∧ (z_ci m_X12_mate [(2, 113), (0, μ 140 a)] μ d (fun x3 m1 => z_ri m_X12_partner 13 [some (2, 113), none, some (0, x3), some (0, 0)] m1 (d + 1) K))) : z_ci m_X12_partner [(2, 113), (0, a)] μ (d + 1) K := by
  show z_R m_X12_partner 0 [some (2, 113), some (0, a), none, none] [] z_n μ (d + 1) _
  refine z_aload_n dX12_partner_0 rfl ?_
  refine z_aload_n dX12_partner_1 rfl ?_
  refine n_getp (ji := 39) dX12_partner_2 zf_X12_90 k_113 rfl (by decide) rfl p_113_39 ?_
  refine z_iload_n dX12_partner_5 rfl ?_
  refine n_iald dX12_partner_6 k_140 h.1 ?_
  refine n_vI (as := [(0, μ 140 a)]) (rest := []) dX12_partner_7 zm_X12_mate zs_X12_248 k_113 (by decide) rfl rfl (Nat.le_of_ble_eq_true rfl) (Nat.le_of_ble_eq_true rfl) h.2 (fun x3 m1 h2 => ?_)
  refine n_istore_n (lo' := [some (2, 113), some (0, a), some (0, x3), none]) dX12_partner_10 ⟨Nat.le_of_ble_eq_true rfl, Nat.le_of_ble_eq_true rfl⟩ rfl ?_
  refine z_iconst dX12_partner_11 ⟨by decide, by decide⟩ ?_
  refine n_istore_n (lo' := [some (2, 113), some (0, a), some (0, x3), some (0, 0)]) dX12_partner_12 ⟨Nat.le_of_ble_eq_true rfl, Nat.le_of_ble_eq_true rfl⟩ rfl ?_
  refine z_drop [some (2, 113), none, some (0, x3), some (0, 0)] ⟨rfl, rfl, rfl, trivial⟩ ?_
  exact h2
set_option maxRecDepth 20000 in
theorem V_X12_partner_13 {v2 v3 : Int}  {μ : z_Mem} {d : Nat} {K : Int → z_Mem → Prop} (h : ((0 : Int) ≤ v3 ∧ v3 < 120) ∧ ((μ 140 v3 = v2 → K v3 μ) ∧ (¬ μ 140 v3 = v2 → z_I (v3 + 1) ∧ (z_ri m_X12_partner 13 [some (2, 113), none, some (0, v2), some (0, v3 + 1)] μ (d + 1) K)))) : z_ri m_X12_partner 13 [some (2, 113), none, some (0, v2), some (0, v3)] μ (d + 1) K := by
  show z_R m_X12_partner 13 [some (2, 113), none, some (0, v2), some (0, v3)] [] z_n μ (d + 1) _
  refine z_aload_n dX12_partner_13 rfl ?_
  refine n_getp (ji := 39) dX12_partner_14 zf_X12_90 k_113 rfl (by decide) rfl p_113_39 ?_
  refine z_iload_n dX12_partner_17 rfl ?_
  refine n_iald dX12_partner_18 k_140 h.1 ?_
  refine z_iload_n dX12_partner_19 rfl ?_
  refine z_icmp_eq (tgt := 29) dX12_partner_20 (by decide) (fun q1 => ?_) (fun q2 => ?_)
  · refine z_iload_n dX12_partner_29 rfl ?_
    exact z_ireturn dX12_partner_30 rfl rfl ⟨_, rfl, (h.2.1 q1)⟩
  · refine n_iinc (lo' := [some (2, 113), none, some (0, v2), some (0, v3 + 1)]) dX12_partner_23 rfl (by decide) (h.2.2 q2).1 rfl ?_
    refine z_goto (tgt := 13) dX12_partner_26 (by decide) ?_
    refine z_drop [some (2, 113), none, some (0, v2), some (0, v3 + 1)] ⟨rfl, rfl, rfl, trivial⟩ ?_
    exact (h.2.2 q2).2
set_option maxRecDepth 20000 in
theorem V_X12_rim {a b : Int}  {μ : z_Mem} {d : Nat} {K : Int → z_Mem → Prop} (h : z_ci m_X12_laysRim [(2, 113)] μ d (fun x3 m1 => (¬ x3 = 0 → (¬ a = (-1) → z_I ((m1 113 41) - 1) ∧ (z_ci m_X12_in [(1, a), (1, 0), (1, (m1 113 41) - 1)] m1 d (fun x10 m8 => (¬ x10 = 0 → (b = 0 → ((0 : Int) ≤ a ∧ a < 120) ∧ (((0 : Int) ≤ m8 140 a) ∧ (K ((m8 140 a) / 4) m8))) ∧ (b = 1 → ((0 : Int) ≤ a ∧ a < 120) ∧ (((0 : Int) ≤ m8 140 a) ∧ (K ((m8 140 a) % 4) m8))) ∧ (b = 2 → ((0 : Int) ≤ a ∧ a < 120) ∧ (K (m8 141 a) m8)) ∧ (b = 3 → z_ci m_X12_partner [(2, 113), (0, a)] m8 d (fun x19 m17 => K x19 m17)) ∧ (b < 0 ∨ 3 < b → K (-1) m8)) ∧ (x10 = 0 → K (-1) m8)))) ∧ (a = (-1) → (¬ b = 0 → K (-1) m1) ∧ (b = 0 → K (m1 113 41) m1))) ∧ (x3 = 0 → K (-1) m1))) : z_ci m_X12_rim [(2, 113), (0, a), (0, b)] μ (d + 1) K := by
  show z_R m_X12_rim 0 [some (2, 113), some (0, a), some (0, b)] [] z_n μ (d + 1) _
  refine z_aload_n dX12_rim_0 rfl ?_
  refine n_vI (as := []) (rest := []) dX12_rim_1 zm_X12_laysRim zs_X12_368 k_113 (by decide) rfl rfl (Nat.le_of_ble_eq_true rfl) (Nat.le_of_ble_eq_true rfl) h (fun x3 m1 h2 => ?_)
  refine z_if_ne (tgt := 9) dX12_rim_4 (by decide) (fun q4 => ?_) (fun q5 => ?_)
  · refine z_iload_n dX12_rim_9 rfl ?_
    refine z_iconst dX12_rim_10 ⟨by decide, by decide⟩ ?_
    refine z_icmp_ne (tgt := 27) dX12_rim_11 (by decide) (fun q6 => ?_) (fun q7 => ?_)
    · refine z_iload_n dX12_rim_27 rfl ?_
      refine z_i2l_ dX12_rim_28 ?_
      refine z_lconst0 dX12_rim_29 ?_
      refine z_aload_n dX12_rim_30 rfl ?_
      refine n_getf (ji := 41) (t := 0) dX12_rim_31 zf_X12_362 k_113 rfl (by decide) rfl ?_
      refine z_iconst dX12_rim_34 ⟨by decide, by decide⟩ ?_
      refine z_isub dX12_rim_35 ((h2.1 q4).1 q6).1 ?_
      refine z_i2l_ dX12_rim_36 ?_
      refine n_sI (as := [(1, a), (1, 0), (1, (m1 113 41) - 1)]) (rest := []) dX12_rim_37 zm_X12_in zs_X12_143 rfl rfl (Nat.le_of_ble_eq_true rfl) (Nat.le_of_ble_eq_true rfl) ((h2.1 q4).1 q6).2 (fun x10 m8 h9 => ?_)
      refine z_if_ne (tgt := 45) dX12_rim_40 (by decide) (fun q11 => ?_) (fun q12 => ?_)
      · refine z_iload_n dX12_rim_45 rfl ?_
        refine z_table dX12_rim_46 [76, 85, 94, 101] 107 (by decide) (by decide) (by decide) (fun i13 q14 q15 => ?_) (fun q16 => ?_)
        · match i13, q14, q15 with
          | 0, _, q15 =>
            refine z_aload_n dX12_rim_76 rfl ?_
            refine n_getp (ji := 39) dX12_rim_77 zf_X12_90 k_113 rfl (by decide) rfl p_113_39 ?_
            refine z_iload_n dX12_rim_80 rfl ?_
            refine n_iald dX12_rim_81 k_140 ((h9.1 q11).1 (by simpa using q15)).1 ?_
            refine z_iconst dX12_rim_82 ⟨by decide, by decide⟩ ?_
            refine z_idiv dX12_rim_83 ((h9.1 q11).1 (by simpa using q15)).2.1 (by decide) ?_
            exact z_ireturn dX12_rim_84 rfl rfl ⟨_, rfl, ((h9.1 q11).1 (by simpa using q15)).2.2⟩
          | 1, _, q15 =>
            refine z_aload_n dX12_rim_85 rfl ?_
            refine n_getp (ji := 39) dX12_rim_86 zf_X12_90 k_113 rfl (by decide) rfl p_113_39 ?_
            refine z_iload_n dX12_rim_89 rfl ?_
            refine n_iald dX12_rim_90 k_140 ((h9.1 q11).2.1 (by simpa using q15)).1 ?_
            refine z_iconst dX12_rim_91 ⟨by decide, by decide⟩ ?_
            refine z_irem dX12_rim_92 ((h9.1 q11).2.1 (by simpa using q15)).2.1 (by decide) ?_
            exact z_ireturn dX12_rim_93 rfl rfl ⟨_, rfl, ((h9.1 q11).2.1 (by simpa using q15)).2.2⟩
          | 2, _, q15 =>
            refine z_aload_n dX12_rim_94 rfl ?_
            refine n_getp (ji := 40) dX12_rim_95 zf_X12_93 k_113 rfl (by decide) rfl p_113_40 ?_
            refine z_iload_n dX12_rim_98 rfl ?_
            refine n_iald dX12_rim_99 k_141 ((h9.1 q11).2.2.1 (by simpa using q15)).1 ?_
            exact z_ireturn dX12_rim_100 rfl rfl ⟨_, rfl, ((h9.1 q11).2.2.1 (by simpa using q15)).2⟩
          | 3, _, q15 =>
            refine z_aload_n dX12_rim_101 rfl ?_
            refine z_iload_n dX12_rim_102 rfl ?_
            refine n_vI (as := [(0, a)]) (rest := []) dX12_rim_103 zm_X12_partner zs_X12_371 k_113 (by decide) rfl rfl (Nat.le_of_ble_eq_true rfl) (Nat.le_of_ble_eq_true rfl) ((h9.1 q11).2.2.2.1 (by simpa using q15)) (fun x19 m17 h18 => ?_)
            exact z_ireturn dX12_rim_106 rfl rfl ⟨_, rfl, h18⟩
          | i13 + 4, q14, _ => exact absurd q14 (by simp)
        · refine z_iconst dX12_rim_107 ⟨by decide, by decide⟩ ?_
          exact z_ireturn dX12_rim_108 rfl rfl ⟨_, rfl, ((h9.1 q11).2.2.2.2 q16)⟩
      · refine z_iconst dX12_rim_43 ⟨by decide, by decide⟩ ?_
        exact z_ireturn dX12_rim_44 rfl rfl ⟨_, rfl, (h9.2 q12)⟩
    · refine z_iload_n dX12_rim_14 rfl ?_
      refine z_if_ne (tgt := 25) dX12_rim_15 (by decide) (fun q20 => ?_) (fun q21 => ?_)
      · refine z_iconst dX12_rim_25 ⟨by decide, by decide⟩ ?_
        exact z_ireturn dX12_rim_26 rfl rfl ⟨_, rfl, (((h2.1 q4).2 q7).1 q20)⟩
      · refine z_aload_n dX12_rim_18 rfl ?_
        refine n_getf (ji := 41) (t := 0) dX12_rim_19 zf_X12_362 k_113 rfl (by decide) rfl ?_
        refine z_goto (tgt := 26) dX12_rim_22 (by decide) ?_
        exact z_ireturn dX12_rim_26 rfl rfl ⟨_, rfl, (((h2.1 q4).2 q7).2 q21)⟩
  · refine z_iconst dX12_rim_7 ⟨by decide, by decide⟩ ?_
    exact z_ireturn dX12_rim_8 rfl rfl ⟨_, rfl, (h2.2 q5)⟩
set_option maxRecDepth 20000 in
theorem V_X12_pointOf {a : Int}  {μ : z_Mem} {d : Nat} {K : Int → z_Mem → Prop} (h : ((0 : Int) ≤ a) ∧ (((0 : Int) < μ 113 41) ∧ (z_ri m_X12_pointOf 7 [some (2, 113), none, some (0, a % (μ 113 41))] μ d K))) : z_ci m_X12_pointOf [(2, 113), (0, a)] μ d K := by
  show z_R m_X12_pointOf 0 [some (2, 113), some (0, a), none] [] z_n μ d _
  refine z_iload_n dX12_pointOf_0 rfl ?_
  refine z_aload_n dX12_pointOf_1 rfl ?_
  refine n_getf (ji := 41) (t := 0) dX12_pointOf_2 zf_X12_362 k_113 rfl (by decide) rfl ?_
  refine z_irem dX12_pointOf_5 h.1 h.2.1 ?_
  refine n_istore_n (lo' := [some (2, 113), some (0, a), some (0, a % (μ 113 41))]) dX12_pointOf_6 ⟨Nat.le_of_ble_eq_true rfl, Nat.le_of_ble_eq_true rfl⟩ rfl ?_
  refine z_drop [some (2, 113), none, some (0, a % (μ 113 41))] ⟨rfl, rfl, trivial⟩ ?_
  exact h.2.2
set_option maxRecDepth 20000 in
theorem V_X12_pointOf_7 {v2 : Int}  {μ : z_Mem} {d : Nat} {K : Int → z_Mem → Prop} (h : ((0 : Int) ≤ v2 ∧ v2 < 22) ∧ ((μ 143 v2 = v2 → K v2 μ) ∧ (¬ μ 143 v2 = v2 → ((0 : Int) ≤ v2 ∧ v2 < 22) ∧ (z_ri m_X12_pointOf 7 [some (2, 113), none, some (0, μ 143 v2)] μ d K)))) : z_ri m_X12_pointOf 7 [some (2, 113), none, some (0, v2)] μ d K := by
  show z_R m_X12_pointOf 7 [some (2, 113), none, some (0, v2)] [] z_n μ d _
  refine z_aload_n dX12_pointOf_7 rfl ?_
  refine n_getp (ji := 43) dX12_pointOf_8 zf_X12_99 k_113 rfl (by decide) rfl p_113_43 ?_
  refine z_iload_n dX12_pointOf_11 rfl ?_
  refine n_iald dX12_pointOf_12 k_143 h.1 ?_
  refine z_iload_n dX12_pointOf_13 rfl ?_
  refine z_icmp_eq (tgt := 27) dX12_pointOf_14 (by decide) (fun q1 => ?_) (fun q2 => ?_)
  · refine z_iload_n dX12_pointOf_27 rfl ?_
    exact z_ireturn dX12_pointOf_28 rfl rfl ⟨_, rfl, (h.2.1 q1)⟩
  · refine z_aload_n dX12_pointOf_17 rfl ?_
    refine n_getp (ji := 43) dX12_pointOf_18 zf_X12_99 k_113 rfl (by decide) rfl p_113_43 ?_
    refine z_iload_n dX12_pointOf_21 rfl ?_
    refine n_iald dX12_pointOf_22 k_143 (h.2.2 q2).1 ?_
    refine n_istore_n (lo' := [some (2, 113), none, some (0, μ 143 v2)]) dX12_pointOf_23 ⟨Nat.le_of_ble_eq_true rfl, Nat.le_of_ble_eq_true rfl⟩ rfl ?_
    refine z_goto (tgt := 7) dX12_pointOf_24 (by decide) ?_
    refine z_drop [some (2, 113), none, some (0, μ 143 v2)] ⟨rfl, rfl, trivial⟩ ?_
    exact (h.2.2 q2).2
set_option maxRecDepth 20000 in
theorem V_X12_makesOne {a b : Int}  {μ : z_Mem} {d : Nat} {K : z_Mem → Prop} (h : z_ci m_X12_pointOf [(2, 113), (0, a)] μ d (fun x3 m1 => z_ci m_X12_pointOf [(2, 113), (0, b)] m1 d (fun x6 m4 => z_ci m_X12_pointOf [(2, 113), (0, a)] m4 d (fun x9 m7 => z_ci m_X12_pointOf [(2, 113), (0, b)] m7 d (fun x12 m10 => ((0 : Int) ≤ max x3 x6 ∧ max x3 x6 < 22) ∧ (K (z_st m10 143 (max x3 x6) (min x9 x12)))))))) : z_cn m_X12_makesOne [(2, 113), (0, a), (0, b)] μ (d + 1) K := by
  show z_R m_X12_makesOne 0 [some (2, 113), some (0, a), some (0, b)] [] z_n μ (d + 1) _
  refine z_aload_n dX12_makesOne_0 rfl ?_
  refine n_getp (ji := 43) dX12_makesOne_1 zf_X12_99 k_113 rfl (by decide) rfl p_113_43 ?_
  refine z_aload_n dX12_makesOne_4 rfl ?_
  refine z_iload_n dX12_makesOne_5 rfl ?_
  refine n_vI (as := [(0, a)]) (rest := [(2, 143)]) dX12_makesOne_6 zm_X12_pointOf zs_X12_374 k_113 (by decide) rfl rfl (Nat.le_of_ble_eq_true rfl) (Nat.le_of_ble_eq_true rfl) h (fun x3 m1 h2 => ?_)
  refine z_aload_n dX12_makesOne_9 rfl ?_
  refine z_iload_n dX12_makesOne_10 rfl ?_
  refine n_vI (as := [(0, b)]) (rest := [(0, x3), (2, 143)]) dX12_makesOne_11 zm_X12_pointOf zs_X12_374 k_113 (by decide) rfl rfl (Nat.le_of_ble_eq_true rfl) (Nat.le_of_ble_eq_true rfl) h2 (fun x6 m4 h5 => ?_)
  refine z_mmax dX12_makesOne_14 zq_1559 zq_675 zq_133 zq_676 (Nat.le_of_ble_eq_true rfl) ?_
  refine z_aload_n dX12_makesOne_17 rfl ?_
  refine z_iload_n dX12_makesOne_18 rfl ?_
  refine n_vI (as := [(0, a)]) (rest := [(0, max x3 x6), (2, 143)]) dX12_makesOne_19 zm_X12_pointOf zs_X12_374 k_113 (by decide) rfl rfl (Nat.le_of_ble_eq_true rfl) (Nat.le_of_ble_eq_true rfl) h5 (fun x9 m7 h8 => ?_)
  refine z_aload_n dX12_makesOne_22 rfl ?_
  refine z_iload_n dX12_makesOne_23 rfl ?_
  refine n_vI (as := [(0, b)]) (rest := [(0, x9), (0, max x3 x6), (2, 143)]) dX12_makesOne_24 zm_X12_pointOf zs_X12_374 k_113 (by decide) rfl rfl (Nat.le_of_ble_eq_true rfl) (Nat.le_of_ble_eq_true rfl) h8 (fun x12 m10 h11 => ?_)
  refine z_mmin dX12_makesOne_27 zq_1406 zq_592 zq_133 zq_593 (Nat.le_of_ble_eq_true rfl) ?_
  refine n_iast dX12_makesOne_30 k_143 h11.1 ?_
  exact z_return dX12_makesOne_31 rfl rfl ⟨rfl, h11.2⟩
set_option maxRecDepth 20000 in
theorem V_X12_laysPoints  {μ : z_Mem} {d : Nat} {K : Int → z_Mem → Prop} (h : z_ri m_X12_laysPoints 2 [some (2, 113), some (0, 0), none] μ (d + 1) K) : z_ci m_X12_laysPoints [(2, 113)] μ (d + 1) K := by
  show z_R m_X12_laysPoints 0 [some (2, 113), none, none] [] z_n μ (d + 1) _
  refine z_iconst dX12_laysPoints_0 ⟨by decide, by decide⟩ ?_
  refine n_istore_n (lo' := [some (2, 113), some (0, 0), none]) dX12_laysPoints_1 ⟨Nat.le_of_ble_eq_true rfl, Nat.le_of_ble_eq_true rfl⟩ rfl ?_
  refine z_drop [some (2, 113), some (0, 0), none] ⟨rfl, rfl, trivial⟩ ?_
  exact h
set_option maxRecDepth 20000 in
theorem V_X12_laysPoints_2 {v1 : Int}  {μ : z_Mem} {d : Nat} {K : Int → z_Mem → Prop} (h : (μ 113 41 ≤ v1 → z_ri m_X12_laysPoints 32 [some (2, 113), some (0, 0), none] μ (d + 1) K) ∧ (v1 < μ 113 41 → ((0 : Int) ≤ v1 ∧ v1 < 22) ∧ (((0 : Int) ≤ v1 ∧ v1 < 22) ∧ (z_I (v1 + 1) ∧ (z_ri m_X12_laysPoints 2 [some (2, 113), some (0, v1 + 1), none] (z_st (z_st μ 143 v1 v1) 144 v1 0) (d + 1) K))))) : z_ri m_X12_laysPoints 2 [some (2, 113), some (0, v1), none] μ (d + 1) K := by
  show z_R m_X12_laysPoints 2 [some (2, 113), some (0, v1), none] [] z_n μ (d + 1) _
  refine z_iload_n dX12_laysPoints_2 rfl ?_
  refine z_aload_n dX12_laysPoints_3 rfl ?_
  refine n_getf (ji := 41) (t := 0) dX12_laysPoints_4 zf_X12_362 k_113 rfl (by decide) rfl ?_
  refine z_icmp_ge (tgt := 30) dX12_laysPoints_7 (by decide) (fun q1 => ?_) (fun q2 => ?_)
  · refine z_iconst dX12_laysPoints_30 ⟨by decide, by decide⟩ ?_
    refine n_istore_n (lo' := [some (2, 113), some (0, 0), none]) dX12_laysPoints_31 ⟨Nat.le_of_ble_eq_true rfl, Nat.le_of_ble_eq_true rfl⟩ rfl ?_
    refine z_drop [some (2, 113), some (0, 0), none] ⟨rfl, rfl, trivial⟩ ?_
    exact (h.1 q1)
  · refine z_aload_n dX12_laysPoints_10 rfl ?_
    refine n_getp (ji := 43) dX12_laysPoints_11 zf_X12_99 k_113 rfl (by decide) rfl p_113_43 ?_
    refine z_iload_n dX12_laysPoints_14 rfl ?_
    refine z_iload_n dX12_laysPoints_15 rfl ?_
    refine n_iast dX12_laysPoints_16 k_143 (h.2 q2).1 ?_
    refine z_aload_n dX12_laysPoints_17 rfl ?_
    refine n_getp (ji := 44) dX12_laysPoints_18 zf_X12_102 k_113 rfl (by decide) rfl p_113_44 ?_
    refine z_iload_n dX12_laysPoints_21 rfl ?_
    refine z_iconst dX12_laysPoints_22 ⟨by decide, by decide⟩ ?_
    refine n_iast dX12_laysPoints_23 k_144 (h.2 q2).2.1 ?_
    refine n_iinc (lo' := [some (2, 113), some (0, v1 + 1), none]) dX12_laysPoints_24 rfl (by decide) (h.2 q2).2.2.1 rfl ?_
    refine z_goto (tgt := 2) dX12_laysPoints_27 (by decide) ?_
    refine z_drop [some (2, 113), some (0, v1 + 1), none] ⟨rfl, rfl, trivial⟩ ?_
    exact (h.2 q2).2.2.2
set_option maxRecDepth 20000 in
theorem V_X12_laysPoints_32 {v1 : Int}  {μ : z_Mem} {d : Nat} {K : Int → z_Mem → Prop} (h : (μ 113 41 ≤ v1 → z_ri m_X12_laysPoints 63 [some (2, 113), some (0, 1), some (0, 0)] μ (d + 1) K) ∧ (v1 < μ 113 41 → ((0 : Int) ≤ v1 ∧ v1 < 22) ∧ (z_I ((μ 142 v1) + 1) ∧ (z_cn m_X12_makesOne [(2, 113), (0, v1), (0, (μ 142 v1) + 1)] μ d (fun m3 => z_I (v1 + 1) ∧ (z_ri m_X12_laysPoints 32 [some (2, 113), some (0, v1 + 1), none] m3 (d + 1) K)))))) : z_ri m_X12_laysPoints 32 [some (2, 113), some (0, v1), none] μ (d + 1) K := by
  show z_R m_X12_laysPoints 32 [some (2, 113), some (0, v1), none] [] z_n μ (d + 1) _
  refine z_iload_n dX12_laysPoints_32 rfl ?_
  refine z_aload_n dX12_laysPoints_33 rfl ?_
  refine n_getf (ji := 41) (t := 0) dX12_laysPoints_34 zf_X12_362 k_113 rfl (by decide) rfl ?_
  refine z_icmp_ge (tgt := 59) dX12_laysPoints_37 (by decide) (fun q1 => ?_) (fun q2 => ?_)
  · refine z_iconst dX12_laysPoints_59 ⟨by decide, by decide⟩ ?_
    refine n_istore_n (lo' := [some (2, 113), some (0, 1), none]) dX12_laysPoints_60 ⟨Nat.le_of_ble_eq_true rfl, Nat.le_of_ble_eq_true rfl⟩ rfl ?_
    refine z_iconst dX12_laysPoints_61 ⟨by decide, by decide⟩ ?_
    refine n_istore_n (lo' := [some (2, 113), some (0, 1), some (0, 0)]) dX12_laysPoints_62 ⟨Nat.le_of_ble_eq_true rfl, Nat.le_of_ble_eq_true rfl⟩ rfl ?_
    refine z_drop [some (2, 113), some (0, 1), some (0, 0)] ⟨rfl, rfl, rfl, trivial⟩ ?_
    exact (h.1 q1)
  · refine z_aload_n dX12_laysPoints_40 rfl ?_
    refine z_iload_n dX12_laysPoints_41 rfl ?_
    refine z_aload_n dX12_laysPoints_42 rfl ?_
    refine n_getp (ji := 42) dX12_laysPoints_43 zf_X12_96 k_113 rfl (by decide) rfl p_113_42 ?_
    refine z_iload_n dX12_laysPoints_46 rfl ?_
    refine n_iald dX12_laysPoints_47 k_142 (h.2 q2).1 ?_
    refine z_iconst dX12_laysPoints_48 ⟨by decide, by decide⟩ ?_
    refine z_iadd dX12_laysPoints_49 (h.2 q2).2.1 ?_
    refine n_vN (as := [(0, v1), (0, (μ 142 v1) + 1)]) (rest := []) dX12_laysPoints_50 zm_X12_makesOne zs_X12_377 k_113 (by decide) rfl rfl (Nat.le_of_ble_eq_true rfl) (Nat.le_of_ble_eq_true rfl) (h.2 q2).2.2 (fun m3 h4 => ?_)
    refine n_iinc (lo' := [some (2, 113), some (0, v1 + 1), none]) dX12_laysPoints_53 rfl (by decide) h4.1 rfl ?_
    refine z_goto (tgt := 32) dX12_laysPoints_56 (by decide) ?_
    refine z_drop [some (2, 113), some (0, v1 + 1), none] ⟨rfl, rfl, trivial⟩ ?_
    exact h4.2
set_option maxRecDepth 20000 in
theorem V_X12_laysPoints_63 {v1 v2 : Int}  {μ : z_Mem} {d : Nat} {K : Int → z_Mem → Prop} (h : (μ 113 41 ≤ v2 → (v1 = 0 ∨ v1 = 1) ∧ (K v1 μ)) ∧ (v2 < μ 113 41 → z_ci m_X12_pointOf [(2, 113), (0, v2)] μ d (fun x5 m3 => ((0 : Int) ≤ x5 ∧ x5 < 22) ∧ (((0 : Int) ≤ v2 ∧ v2 < 120) ∧ (z_I ((m3 144 x5) + (m3 141 v2)) ∧ (((0 : Int) ≤ x5 ∧ x5 < 22) ∧ ((v1 = 0 → z_I (v2 + 1) ∧ (z_ri m_X12_laysPoints 63 [some (2, 113), some (0, 0), some (0, v2 + 1)] (z_st m3 144 x5 ((m3 144 x5) + (m3 141 v2))) (d + 1) K)) ∧ (¬ v1 = 0 → z_ci m_X12_pointOf [(2, 113), (0, v2)] (z_st m3 144 x5 ((m3 144 x5) + (m3 141 v2))) d (fun x10 m8 => ((0 : Int) ≤ x10 ∧ x10 < 22) ∧ ((4 < m8 144 x10 → z_I (v2 + 1) ∧ (z_ri m_X12_laysPoints 63 [some (2, 113), some (0, 0), some (0, v2 + 1)] m8 (d + 1) K)) ∧ (m8 144 x10 ≤ 4 → z_I (v2 + 1) ∧ (z_ri m_X12_laysPoints 63 [some (2, 113), some (0, 1), some (0, v2 + 1)] m8 (d + 1) K)))))))))))) : z_ri m_X12_laysPoints 63 [some (2, 113), some (0, v1), some (0, v2)] μ (d + 1) K := by
  show z_R m_X12_laysPoints 63 [some (2, 113), some (0, v1), some (0, v2)] [] z_n μ (d + 1) _
  refine z_iload_n dX12_laysPoints_63 rfl ?_
  refine z_aload_n dX12_laysPoints_64 rfl ?_
  refine n_getf (ji := 41) (t := 0) dX12_laysPoints_65 zf_X12_362 k_113 rfl (by decide) rfl ?_
  refine z_icmp_ge (tgt := 120) dX12_laysPoints_68 (by decide) (fun q1 => ?_) (fun q2 => ?_)
  · refine z_iload_n dX12_laysPoints_120 rfl ?_
    exact z_zreturn dX12_laysPoints_121 rfl rfl (h.1 q1).1 ⟨_, rfl, (h.1 q1).2⟩
  · refine z_aload_n dX12_laysPoints_71 rfl ?_
    refine n_getp (ji := 44) dX12_laysPoints_72 zf_X12_102 k_113 rfl (by decide) rfl p_113_44 ?_
    refine z_aload_n dX12_laysPoints_75 rfl ?_
    refine z_iload_n dX12_laysPoints_76 rfl ?_
    refine n_vI (as := [(0, v2)]) (rest := [(2, 144)]) dX12_laysPoints_77 zm_X12_pointOf zs_X12_374 k_113 (by decide) rfl rfl (Nat.le_of_ble_eq_true rfl) (Nat.le_of_ble_eq_true rfl) (h.2 q2) (fun x5 m3 h4 => ?_)
    refine z_dup2 dX12_laysPoints_80 rfl rfl ?_
    refine n_iald dX12_laysPoints_81 k_144 h4.1 ?_
    refine z_aload_n dX12_laysPoints_82 rfl ?_
    refine n_getp (ji := 40) dX12_laysPoints_83 zf_X12_93 k_113 rfl (by decide) rfl p_113_40 ?_
    refine z_iload_n dX12_laysPoints_86 rfl ?_
    refine n_iald dX12_laysPoints_87 k_141 h4.2.1 ?_
    refine z_iadd dX12_laysPoints_88 h4.2.2.1 ?_
    refine n_iast dX12_laysPoints_89 k_144 h4.2.2.2.1 ?_
    refine z_iload_n dX12_laysPoints_90 rfl ?_
    refine z_if_eq (tgt := 112) dX12_laysPoints_91 (by decide) (fun q6 => ?_) (fun q7 => ?_)
    · refine z_iconst dX12_laysPoints_112 ⟨by decide, by decide⟩ ?_
      refine n_istore_n (lo' := [some (2, 113), some (0, 0), some (0, v2)]) dX12_laysPoints_113 ⟨Nat.le_of_ble_eq_true rfl, Nat.le_of_ble_eq_true rfl⟩ rfl ?_
      refine n_iinc (lo' := [some (2, 113), some (0, 0), some (0, v2 + 1)]) dX12_laysPoints_114 rfl (by decide) (h4.2.2.2.2.1 q6).1 rfl ?_
      refine z_goto (tgt := 63) dX12_laysPoints_117 (by decide) ?_
      refine z_drop [some (2, 113), some (0, 0), some (0, v2 + 1)] ⟨rfl, rfl, rfl, trivial⟩ ?_
      exact (h4.2.2.2.2.1 q6).2
    · refine z_aload_n dX12_laysPoints_94 rfl ?_
      refine n_getp (ji := 44) dX12_laysPoints_95 zf_X12_102 k_113 rfl (by decide) rfl p_113_44 ?_
      refine z_aload_n dX12_laysPoints_98 rfl ?_
      refine z_iload_n dX12_laysPoints_99 rfl ?_
      refine n_vI (as := [(0, v2)]) (rest := [(2, 144)]) dX12_laysPoints_100 zm_X12_pointOf zs_X12_374 k_113 (by decide) rfl rfl (Nat.le_of_ble_eq_true rfl) (Nat.le_of_ble_eq_true rfl) (h4.2.2.2.2.2 q7) (fun x10 m8 h9 => ?_)
      refine n_iald dX12_laysPoints_103 k_144 h9.1 ?_
      refine z_iconst dX12_laysPoints_104 ⟨by decide, by decide⟩ ?_
      refine z_icmp_gt (tgt := 112) dX12_laysPoints_105 (by decide) (fun q11 => ?_) (fun q12 => ?_)
      · refine z_iconst dX12_laysPoints_112 ⟨by decide, by decide⟩ ?_
        refine n_istore_n (lo' := [some (2, 113), some (0, 0), some (0, v2)]) dX12_laysPoints_113 ⟨Nat.le_of_ble_eq_true rfl, Nat.le_of_ble_eq_true rfl⟩ rfl ?_
        refine n_iinc (lo' := [some (2, 113), some (0, 0), some (0, v2 + 1)]) dX12_laysPoints_114 rfl (by decide) (h9.2.1 q11).1 rfl ?_
        refine z_goto (tgt := 63) dX12_laysPoints_117 (by decide) ?_
        refine z_drop [some (2, 113), some (0, 0), some (0, v2 + 1)] ⟨rfl, rfl, rfl, trivial⟩ ?_
        exact (h9.2.1 q11).2
      · refine z_iconst dX12_laysPoints_108 ⟨by decide, by decide⟩ ?_
        refine z_goto (tgt := 113) dX12_laysPoints_109 (by decide) ?_
        refine n_istore_n (lo' := [some (2, 113), some (0, 1), some (0, v2)]) dX12_laysPoints_113 ⟨Nat.le_of_ble_eq_true rfl, Nat.le_of_ble_eq_true rfl⟩ rfl ?_
        refine n_iinc (lo' := [some (2, 113), some (0, 1), some (0, v2 + 1)]) dX12_laysPoints_114 rfl (by decide) (h9.2.2 q12).1 rfl ?_
        refine z_goto (tgt := 63) dX12_laysPoints_117 (by decide) ?_
        refine z_drop [some (2, 113), some (0, 1), some (0, v2 + 1)] ⟨rfl, rfl, rfl, trivial⟩ ?_
        exact (h9.2.2 q12).2
set_option maxRecDepth 20000 in
theorem V_X12_glues {a : Int}  {μ : z_Mem} {d : Nat} {K : Int → z_Mem → Prop} (h : z_ri m_X12_glues 2 [some (2, 113), none, some (0, a), none] μ (d + 1) K) : z_ci m_X12_glues [(2, 113), (0, a)] μ (d + 1) K := by
  show z_R m_X12_glues 0 [some (2, 113), some (0, a), none, none] [] z_n μ (d + 1) _
  refine z_iload_n dX12_glues_0 rfl ?_
  refine n_istore_n (lo' := [some (2, 113), some (0, a), some (0, a), none]) dX12_glues_1 ⟨Nat.le_of_ble_eq_true rfl, Nat.le_of_ble_eq_true rfl⟩ rfl ?_
  refine z_drop [some (2, 113), none, some (0, a), none] ⟨rfl, rfl, trivial⟩ ?_
  exact h
set_option maxRecDepth 20000 in
theorem V_X12_glues_2 {v2 : Int}  {μ : z_Mem} {d : Nat} {K : Int → z_Mem → Prop} (h : (μ 113 41 ≤ v2 → (¬ v2 = μ 113 41 → z_I (v2 + 1) ∧ (z_ri m_X12_glues 76 [some (2, 113), none, some (0, v2), some (0, v2 + 1)] μ (d + 1) K)) ∧ (v2 = μ 113 41 → z_ci m_X12_laysPoints [(2, 113)] μ d (fun x7 m5 => (¬ x7 = 0 → z_I ((m5 113 45) + 1) ∧ (z_I (((z_st m5 113 45 ((m5 113 45) + 1)) 113 45) - 1) ∧ ((¬ ((z_st m5 113 45 ((m5 113 45) + 1)) 113 45) - 1 = (z_st m5 113 45 ((m5 113 45) + 1)) 113 46 → K 0 (z_st m5 113 45 ((m5 113 45) + 1))) ∧ (((z_st m5 113 45 ((m5 113 45) + 1)) 113 45) - 1 = (z_st m5 113 45 ((m5 113 45) + 1)) 113 46 → K 1 (z_st m5 113 45 ((m5 113 45) + 1)))))) ∧ (x7 = 0 → K 0 m5)))) ∧ (v2 < μ 113 41 → ((0 : Int) ≤ v2 ∧ v2 < 22) ∧ ((μ 142 v2 = (-1) → (¬ v2 = μ 113 41 → z_I (v2 + 1) ∧ (z_ri m_X12_glues 76 [some (2, 113), none, some (0, v2), some (0, v2 + 1)] μ (d + 1) K)) ∧ (v2 = μ 113 41 → z_ci m_X12_laysPoints [(2, 113)] μ d (fun x18 m16 => (¬ x18 = 0 → z_I ((m16 113 45) + 1) ∧ (z_I (((z_st m16 113 45 ((m16 113 45) + 1)) 113 45) - 1) ∧ ((¬ ((z_st m16 113 45 ((m16 113 45) + 1)) 113 45) - 1 = (z_st m16 113 45 ((m16 113 45) + 1)) 113 46 → K 0 (z_st m16 113 45 ((m16 113 45) + 1))) ∧ (((z_st m16 113 45 ((m16 113 45) + 1)) 113 45) - 1 = (z_st m16 113 45 ((m16 113 45) + 1)) 113 46 → K 1 (z_st m16 113 45 ((m16 113 45) + 1)))))) ∧ (x18 = 0 → K 0 m16)))) ∧ (¬ μ 142 v2 = (-1) → z_I (v2 + 1) ∧ (z_ri m_X12_glues 2 [some (2, 113), none, some (0, v2 + 1), none] μ (d + 1) K))))) : z_ri m_X12_glues 2 [some (2, 113), none, some (0, v2), none] μ (d + 1) K := by
  show z_R m_X12_glues 2 [some (2, 113), none, some (0, v2), none] [] z_n μ (d + 1) _
  refine z_iload_n dX12_glues_2 rfl ?_
  refine z_aload_n dX12_glues_3 rfl ?_
  refine n_getf (ji := 41) (t := 0) dX12_glues_4 zf_X12_362 k_113 rfl (by decide) rfl ?_
  refine z_icmp_ge (tgt := 26) dX12_glues_7 (by decide) (fun q1 => ?_) (fun q2 => ?_)
  · refine z_iload_n dX12_glues_26 rfl ?_
    refine z_aload_n dX12_glues_27 rfl ?_
    refine n_getf (ji := 41) (t := 0) dX12_glues_28 zf_X12_362 k_113 rfl (by decide) rfl ?_
    refine z_icmp_ne (tgt := 72) dX12_glues_31 (by decide) (fun q3 => ?_) (fun q4 => ?_)
    · refine z_iload_n dX12_glues_72 rfl ?_
      refine z_iconst dX12_glues_73 ⟨by decide, by decide⟩ ?_
      refine z_iadd dX12_glues_74 ((h.1 q1).1 q3).1 ?_
      refine n_istore_n (lo' := [some (2, 113), none, some (0, v2), some (0, v2 + 1)]) dX12_glues_75 ⟨Nat.le_of_ble_eq_true rfl, Nat.le_of_ble_eq_true rfl⟩ rfl ?_
      refine z_drop [some (2, 113), none, some (0, v2), some (0, v2 + 1)] ⟨rfl, rfl, rfl, trivial⟩ ?_
      exact ((h.1 q1).1 q3).2
    · refine z_aload_n dX12_glues_34 rfl ?_
      refine n_vI (as := []) (rest := []) dX12_glues_35 zm_X12_laysPoints zs_X12_380 k_113 (by decide) rfl rfl (Nat.le_of_ble_eq_true rfl) (Nat.le_of_ble_eq_true rfl) ((h.1 q1).2 q4) (fun x7 m5 h6 => ?_)
      refine z_if_ne (tgt := 43) dX12_glues_38 (by decide) (fun q8 => ?_) (fun q9 => ?_)
      · refine z_aload_n dX12_glues_43 rfl ?_
        refine z_dup dX12_glues_44 rfl ?_
        refine n_getf (ji := 45) (t := 0) dX12_glues_45 zf_X12_383 k_113 rfl (by decide) rfl ?_
        refine z_iconst dX12_glues_48 ⟨by decide, by decide⟩ ?_
        refine z_iadd dX12_glues_49 (h6.1 q8).1 ?_
        refine n_putI (ji := 45) dX12_glues_50 zf_X12_383 k_113 rfl (by decide) rfl ?_
        refine z_aload_n dX12_glues_53 rfl ?_
        refine n_getf (ji := 45) (t := 0) dX12_glues_54 zf_X12_383 k_113 rfl (by decide) rfl ?_
        refine z_iconst dX12_glues_57 ⟨by decide, by decide⟩ ?_
        refine z_isub dX12_glues_58 (h6.1 q8).2.1 ?_
        refine z_aload_n dX12_glues_59 rfl ?_
        refine n_getf (ji := 46) (t := 0) dX12_glues_60 zf_X12_386 k_113 rfl (by decide) rfl ?_
        refine z_icmp_ne (tgt := 70) dX12_glues_63 (by decide) (fun q10 => ?_) (fun q11 => ?_)
        · refine z_iconst dX12_glues_70 ⟨by decide, by decide⟩ ?_
          exact z_zreturn dX12_glues_71 rfl rfl (by decide) ⟨_, rfl, ((h6.1 q8).2.2.1 q10)⟩
        · refine z_iconst dX12_glues_66 ⟨by decide, by decide⟩ ?_
          refine z_goto (tgt := 71) dX12_glues_67 (by decide) ?_
          exact z_zreturn dX12_glues_71 rfl rfl (by decide) ⟨_, rfl, ((h6.1 q8).2.2.2 q11)⟩
      · refine z_iconst dX12_glues_41 ⟨by decide, by decide⟩ ?_
        exact z_zreturn dX12_glues_42 rfl rfl (by decide) ⟨_, rfl, (h6.2 q9)⟩
  · refine z_aload_n dX12_glues_10 rfl ?_
    refine n_getp (ji := 42) dX12_glues_11 zf_X12_96 k_113 rfl (by decide) rfl p_113_42 ?_
    refine z_iload_n dX12_glues_14 rfl ?_
    refine n_iald dX12_glues_15 k_142 (h.2 q2).1 ?_
    refine z_iconst dX12_glues_16 ⟨by decide, by decide⟩ ?_
    refine z_icmp_eq (tgt := 26) dX12_glues_17 (by decide) (fun q12 => ?_) (fun q13 => ?_)
    · refine z_iload_n dX12_glues_26 rfl ?_
      refine z_aload_n dX12_glues_27 rfl ?_
      refine n_getf (ji := 41) (t := 0) dX12_glues_28 zf_X12_362 k_113 rfl (by decide) rfl ?_
      refine z_icmp_ne (tgt := 72) dX12_glues_31 (by decide) (fun q14 => ?_) (fun q15 => ?_)
      · refine z_iload_n dX12_glues_72 rfl ?_
        refine z_iconst dX12_glues_73 ⟨by decide, by decide⟩ ?_
        refine z_iadd dX12_glues_74 (((h.2 q2).2.1 q12).1 q14).1 ?_
        refine n_istore_n (lo' := [some (2, 113), none, some (0, v2), some (0, v2 + 1)]) dX12_glues_75 ⟨Nat.le_of_ble_eq_true rfl, Nat.le_of_ble_eq_true rfl⟩ rfl ?_
        refine z_drop [some (2, 113), none, some (0, v2), some (0, v2 + 1)] ⟨rfl, rfl, rfl, trivial⟩ ?_
        exact (((h.2 q2).2.1 q12).1 q14).2
      · refine z_aload_n dX12_glues_34 rfl ?_
        refine n_vI (as := []) (rest := []) dX12_glues_35 zm_X12_laysPoints zs_X12_380 k_113 (by decide) rfl rfl (Nat.le_of_ble_eq_true rfl) (Nat.le_of_ble_eq_true rfl) (((h.2 q2).2.1 q12).2 q15) (fun x18 m16 h17 => ?_)
        refine z_if_ne (tgt := 43) dX12_glues_38 (by decide) (fun q19 => ?_) (fun q20 => ?_)
        · refine z_aload_n dX12_glues_43 rfl ?_
          refine z_dup dX12_glues_44 rfl ?_
          refine n_getf (ji := 45) (t := 0) dX12_glues_45 zf_X12_383 k_113 rfl (by decide) rfl ?_
          refine z_iconst dX12_glues_48 ⟨by decide, by decide⟩ ?_
          refine z_iadd dX12_glues_49 (h17.1 q19).1 ?_
          refine n_putI (ji := 45) dX12_glues_50 zf_X12_383 k_113 rfl (by decide) rfl ?_
          refine z_aload_n dX12_glues_53 rfl ?_
          refine n_getf (ji := 45) (t := 0) dX12_glues_54 zf_X12_383 k_113 rfl (by decide) rfl ?_
          refine z_iconst dX12_glues_57 ⟨by decide, by decide⟩ ?_
          refine z_isub dX12_glues_58 (h17.1 q19).2.1 ?_
          refine z_aload_n dX12_glues_59 rfl ?_
          refine n_getf (ji := 46) (t := 0) dX12_glues_60 zf_X12_386 k_113 rfl (by decide) rfl ?_
          refine z_icmp_ne (tgt := 70) dX12_glues_63 (by decide) (fun q21 => ?_) (fun q22 => ?_)
          · refine z_iconst dX12_glues_70 ⟨by decide, by decide⟩ ?_
            exact z_zreturn dX12_glues_71 rfl rfl (by decide) ⟨_, rfl, ((h17.1 q19).2.2.1 q21)⟩
          · refine z_iconst dX12_glues_66 ⟨by decide, by decide⟩ ?_
            refine z_goto (tgt := 71) dX12_glues_67 (by decide) ?_
            exact z_zreturn dX12_glues_71 rfl rfl (by decide) ⟨_, rfl, ((h17.1 q19).2.2.2 q22)⟩
        · refine z_iconst dX12_glues_41 ⟨by decide, by decide⟩ ?_
          exact z_zreturn dX12_glues_42 rfl rfl (by decide) ⟨_, rfl, (h17.2 q20)⟩
    · refine n_iinc (lo' := [some (2, 113), none, some (0, v2 + 1), none]) dX12_glues_20 rfl (by decide) ((h.2 q2).2.2 q13).1 rfl ?_
      refine z_goto (tgt := 2) dX12_glues_23 (by decide) ?_
      refine z_drop [some (2, 113), none, some (0, v2 + 1), none] ⟨rfl, rfl, trivial⟩ ?_
      exact ((h.2 q2).2.2 q13).2
set_option maxRecDepth 20000 in
theorem V_X12_glues_76 {v2 v3 : Int}  {μ : z_Mem} {d : Nat} {K : Int → z_Mem → Prop} (h : (μ 113 41 ≤ v3 → K 0 μ) ∧ (v3 < μ 113 41 → ((0 : Int) ≤ v3 ∧ v3 < 22) ∧ ((¬ μ 142 v3 = (-1) → K 0 μ) ∧ (μ 142 v3 = (-1) → z_I (v2 + 1) ∧ (z_ci m_X12_areFree [(2, 113), (0, v2 + 1), (0, v3)] μ d (fun x7 m5 => (¬ x7 = 0 → ((0 : Int) ≤ v2 ∧ v2 < 22) ∧ (((0 : Int) ≤ v3 ∧ v3 < 22) ∧ (z_I (v2 + 1) ∧ (z_ci m_X12_glues [(2, 113), (0, v2 + 1)] (z_st (z_st m5 142 v2 v3) 142 v3 v2) d (fun x12 m10 => (x12 = 0 → ((0 : Int) ≤ v2 ∧ v2 < 22) ∧ (((0 : Int) ≤ v3 ∧ v3 < 22) ∧ (z_I (v3 + 2) ∧ (z_ri m_X12_glues 76 [some (2, 113), none, some (0, v2), some (0, v3 + 2)] (z_st (z_st m10 142 v2 (-1)) 142 v3 (-1)) (d + 1) K)))) ∧ (¬ x12 = 0 → K 1 m10)))))) ∧ (x7 = 0 → K 0 m5))))))) : z_ri m_X12_glues 76 [some (2, 113), none, some (0, v2), some (0, v3)] μ (d + 1) K := by
  show z_R m_X12_glues 76 [some (2, 113), none, some (0, v2), some (0, v3)] [] z_n μ (d + 1) _
  refine z_iload_n dX12_glues_76 rfl ?_
  refine z_aload_n dX12_glues_77 rfl ?_
  refine n_getf (ji := 41) (t := 0) dX12_glues_78 zf_X12_362 k_113 rfl (by decide) rfl ?_
  refine z_icmp_ge (tgt := 154) dX12_glues_81 (by decide) (fun q1 => ?_) (fun q2 => ?_)
  · refine z_iconst dX12_glues_154 ⟨by decide, by decide⟩ ?_
    exact z_zreturn dX12_glues_155 rfl rfl (by decide) ⟨_, rfl, (h.1 q1)⟩
  · refine z_aload_n dX12_glues_84 rfl ?_
    refine n_getp (ji := 42) dX12_glues_85 zf_X12_96 k_113 rfl (by decide) rfl p_113_42 ?_
    refine z_iload_n dX12_glues_88 rfl ?_
    refine n_iald dX12_glues_89 k_142 (h.2 q2).1 ?_
    refine z_iconst dX12_glues_90 ⟨by decide, by decide⟩ ?_
    refine z_icmp_ne (tgt := 154) dX12_glues_91 (by decide) (fun q3 => ?_) (fun q4 => ?_)
    · refine z_iconst dX12_glues_154 ⟨by decide, by decide⟩ ?_
      exact z_zreturn dX12_glues_155 rfl rfl (by decide) ⟨_, rfl, ((h.2 q2).2.1 q3)⟩
    · refine z_aload_n dX12_glues_94 rfl ?_
      refine z_iload_n dX12_glues_95 rfl ?_
      refine z_iconst dX12_glues_96 ⟨by decide, by decide⟩ ?_
      refine z_iadd dX12_glues_97 ((h.2 q2).2.2 q4).1 ?_
      refine z_iload_n dX12_glues_98 rfl ?_
      refine n_vI (as := [(0, v2 + 1), (0, v3)]) (rest := []) dX12_glues_99 zm_X12_areFree zs_X12_389 k_113 (by decide) rfl rfl (Nat.le_of_ble_eq_true rfl) (Nat.le_of_ble_eq_true rfl) ((h.2 q2).2.2 q4).2 (fun x7 m5 h6 => ?_)
      refine z_if_ne (tgt := 108) dX12_glues_102 (by decide) (fun q8 => ?_) (fun q9 => ?_)
      · refine z_aload_n dX12_glues_108 rfl ?_
        refine n_getp (ji := 42) dX12_glues_109 zf_X12_96 k_113 rfl (by decide) rfl p_113_42 ?_
        refine z_iload_n dX12_glues_112 rfl ?_
        refine z_iload_n dX12_glues_113 rfl ?_
        refine n_iast dX12_glues_114 k_142 (h6.1 q8).1 ?_
        refine z_aload_n dX12_glues_115 rfl ?_
        refine n_getp (ji := 42) dX12_glues_116 zf_X12_96 k_113 rfl (by decide) rfl p_113_42 ?_
        refine z_iload_n dX12_glues_119 rfl ?_
        refine z_iload_n dX12_glues_120 rfl ?_
        refine n_iast dX12_glues_121 k_142 (h6.1 q8).2.1 ?_
        refine z_aload_n dX12_glues_122 rfl ?_
        refine z_iload_n dX12_glues_123 rfl ?_
        refine z_iconst dX12_glues_124 ⟨by decide, by decide⟩ ?_
        refine z_iadd dX12_glues_125 (h6.1 q8).2.2.1 ?_
        refine n_vI (as := [(0, v2 + 1)]) (rest := []) dX12_glues_126 zm_X12_glues zs_X12_392 k_113 (by decide) rfl rfl (Nat.le_of_ble_eq_true rfl) (Nat.le_of_ble_eq_true rfl) (h6.1 q8).2.2.2 (fun x12 m10 h11 => ?_)
        refine z_if_eq (tgt := 134) dX12_glues_129 (by decide) (fun q13 => ?_) (fun q14 => ?_)
        · refine z_aload_n dX12_glues_134 rfl ?_
          refine n_getp (ji := 42) dX12_glues_135 zf_X12_96 k_113 rfl (by decide) rfl p_113_42 ?_
          refine z_iload_n dX12_glues_138 rfl ?_
          refine z_iconst dX12_glues_139 ⟨by decide, by decide⟩ ?_
          refine n_iast dX12_glues_140 k_142 (h11.1 q13).1 ?_
          refine z_aload_n dX12_glues_141 rfl ?_
          refine n_getp (ji := 42) dX12_glues_142 zf_X12_96 k_113 rfl (by decide) rfl p_113_42 ?_
          refine z_iload_n dX12_glues_145 rfl ?_
          refine z_iconst dX12_glues_146 ⟨by decide, by decide⟩ ?_
          refine n_iast dX12_glues_147 k_142 (h11.1 q13).2.1 ?_
          refine n_iinc (lo' := [some (2, 113), none, some (0, v2), some (0, v3 + 2)]) dX12_glues_148 rfl (by decide) (h11.1 q13).2.2.1 rfl ?_
          refine z_goto (tgt := 76) dX12_glues_151 (by decide) ?_
          refine z_drop [some (2, 113), none, some (0, v2), some (0, v3 + 2)] ⟨rfl, rfl, rfl, trivial⟩ ?_
          exact (h11.1 q13).2.2.2
        · refine z_iconst dX12_glues_132 ⟨by decide, by decide⟩ ?_
          exact z_zreturn dX12_glues_133 rfl rfl (by decide) ⟨_, rfl, (h11.2 q14)⟩
      · refine z_goto (tgt := 154) dX12_glues_105 (by decide) ?_
        refine z_iconst dX12_glues_154 ⟨by decide, by decide⟩ ?_
        exact z_zreturn dX12_glues_155 rfl rfl (by decide) ⟨_, rfl, (h6.2 q9)⟩
set_option maxRecDepth 20000 in
theorem V_X12_areFree {a b : Int}  {μ : z_Mem} {d : Nat} {K : Int → z_Mem → Prop} (h : z_ri m_X12_areFree 2 [some (2, 113), none, some (0, b), some (0, a)] μ d K) : z_ci m_X12_areFree [(2, 113), (0, a), (0, b)] μ d K := by
  show z_R m_X12_areFree 0 [some (2, 113), some (0, a), some (0, b), none] [] z_n μ d _
  refine z_iload_n dX12_areFree_0 rfl ?_
  refine n_istore_n (lo' := [some (2, 113), some (0, a), some (0, b), some (0, a)]) dX12_areFree_1 ⟨Nat.le_of_ble_eq_true rfl, Nat.le_of_ble_eq_true rfl⟩ rfl ?_
  refine z_drop [some (2, 113), none, some (0, b), some (0, a)] ⟨rfl, rfl, rfl, trivial⟩ ?_
  exact h
set_option maxRecDepth 20000 in
theorem V_X12_areFree_2 {v2 v3 : Int}  {μ : z_Mem} {d : Nat} {K : Int → z_Mem → Prop} (h : (v2 ≤ v3 → K 1 μ) ∧ (v3 < v2 → ((0 : Int) ≤ v3 ∧ v3 < 22) ∧ ((μ 142 v3 = (-1) → z_I (v3 + 1) ∧ (z_ri m_X12_areFree 2 [some (2, 113), none, some (0, v2), some (0, v3 + 1)] μ d K)) ∧ (¬ μ 142 v3 = (-1) → K 0 μ)))) : z_ri m_X12_areFree 2 [some (2, 113), none, some (0, v2), some (0, v3)] μ d K := by
  show z_R m_X12_areFree 2 [some (2, 113), none, some (0, v2), some (0, v3)] [] z_n μ d _
  refine z_iload_n dX12_areFree_2 rfl ?_
  refine z_iload_n dX12_areFree_3 rfl ?_
  refine z_icmp_ge (tgt := 25) dX12_areFree_4 (by decide) (fun q1 => ?_) (fun q2 => ?_)
  · refine z_iconst dX12_areFree_25 ⟨by decide, by decide⟩ ?_
    exact z_zreturn dX12_areFree_26 rfl rfl (by decide) ⟨_, rfl, (h.1 q1)⟩
  · refine z_aload_n dX12_areFree_7 rfl ?_
    refine n_getp (ji := 42) dX12_areFree_8 zf_X12_96 k_113 rfl (by decide) rfl p_113_42 ?_
    refine z_iload_n dX12_areFree_11 rfl ?_
    refine n_iald dX12_areFree_12 k_142 (h.2 q2).1 ?_
    refine z_iconst dX12_areFree_13 ⟨by decide, by decide⟩ ?_
    refine z_icmp_eq (tgt := 19) dX12_areFree_14 (by decide) (fun q3 => ?_) (fun q4 => ?_)
    · refine n_iinc (lo' := [some (2, 113), none, some (0, v2), some (0, v3 + 1)]) dX12_areFree_19 rfl (by decide) ((h.2 q2).2.1 q3).1 rfl ?_
      refine z_goto (tgt := 2) dX12_areFree_22 (by decide) ?_
      refine z_drop [some (2, 113), none, some (0, v2), some (0, v3 + 1)] ⟨rfl, rfl, rfl, trivial⟩ ?_
      exact ((h.2 q2).2.1 q3).2
    · refine z_iconst dX12_areFree_17 ⟨by decide, by decide⟩ ?_
      exact z_zreturn dX12_areFree_18 rfl rfl (by decide) ⟨_, rfl, ((h.2 q2).2.2 q4)⟩
set_option maxRecDepth 20000 in
theorem V_X12_laysGluings {a : Int}  {μ : z_Mem} {d : Nat} {K : Int → z_Mem → Prop} (h : z_ci m_X12_laysRim [(2, 113)] μ d (fun x3 m1 => (¬ x3 = 0 → (m1 113 41 ≤ 22 → z_ri m_X12_laysGluings 23 [some (2, 113), some (0, a), some (0, 0)] m1 (d + 1) K) ∧ (22 < m1 113 41 → K (-3) m1)) ∧ (x3 = 0 → K (-1) m1))) : z_ci m_X12_laysGluings [(2, 113), (0, a)] μ (d + 1) K := by
  show z_R m_X12_laysGluings 0 [some (2, 113), some (0, a), none] [] z_n μ (d + 1) _
  refine z_aload_n dX12_laysGluings_0 rfl ?_
  refine n_vI (as := []) (rest := []) dX12_laysGluings_1 zm_X12_laysRim zs_X12_368 k_113 (by decide) rfl rfl (Nat.le_of_ble_eq_true rfl) (Nat.le_of_ble_eq_true rfl) h (fun x3 m1 h2 => ?_)
  refine z_if_ne (tgt := 9) dX12_laysGluings_4 (by decide) (fun q4 => ?_) (fun q5 => ?_)
  · refine z_aload_n dX12_laysGluings_9 rfl ?_
    refine n_getf (ji := 41) (t := 0) dX12_laysGluings_10 zf_X12_362 k_113 rfl (by decide) rfl ?_
    refine z_bipush dX12_laysGluings_13 (by decide) ?_
    refine z_icmp_le (tgt := 21) dX12_laysGluings_15 (by decide) (fun q6 => ?_) (fun q7 => ?_)
    · refine z_iconst dX12_laysGluings_21 ⟨by decide, by decide⟩ ?_
      refine n_istore_n (lo' := [some (2, 113), some (0, a), some (0, 0)]) dX12_laysGluings_22 ⟨Nat.le_of_ble_eq_true rfl, Nat.le_of_ble_eq_true rfl⟩ rfl ?_
      refine z_drop [some (2, 113), some (0, a), some (0, 0)] ⟨rfl, rfl, rfl, trivial⟩ ?_
      exact ((h2.1 q4).1 q6)
    · refine z_bipush dX12_laysGluings_18 (by decide) ?_
      exact z_ireturn dX12_laysGluings_20 rfl rfl ⟨_, rfl, ((h2.1 q4).2 q7)⟩
  · refine z_iconst dX12_laysGluings_7 ⟨by decide, by decide⟩ ?_
    exact z_ireturn dX12_laysGluings_8 rfl rfl ⟨_, rfl, (h2.2 q5)⟩
set_option maxRecDepth 20000 in
theorem V_X12_laysGluings_23 {v1 v2 : Int}  {μ : z_Mem} {d : Nat} {K : Int → z_Mem → Prop} (h : (μ 113 41 ≤ v2 → z_ci m_X12_glues [(2, 113), (0, 0)] (z_st (z_st μ 113 45 0) 113 46 v1) d (fun x5 m3 => K (m3 113 45) m3)) ∧ (v2 < μ 113 41 → ((0 : Int) ≤ v2 ∧ v2 < 22) ∧ (z_I (v2 + 1) ∧ (z_ri m_X12_laysGluings 23 [some (2, 113), some (0, v1), some (0, v2 + 1)] (z_st μ 142 v2 (-1)) (d + 1) K)))) : z_ri m_X12_laysGluings 23 [some (2, 113), some (0, v1), some (0, v2)] μ (d + 1) K := by
  show z_R m_X12_laysGluings 23 [some (2, 113), some (0, v1), some (0, v2)] [] z_n μ (d + 1) _
  refine z_iload_n dX12_laysGluings_23 rfl ?_
  refine z_aload_n dX12_laysGluings_24 rfl ?_
  refine n_getf (ji := 41) (t := 0) dX12_laysGluings_25 zf_X12_362 k_113 rfl (by decide) rfl ?_
  refine z_icmp_ge (tgt := 44) dX12_laysGluings_28 (by decide) (fun q1 => ?_) (fun q2 => ?_)
  · refine z_aload_n dX12_laysGluings_44 rfl ?_
    refine z_iconst dX12_laysGluings_45 ⟨by decide, by decide⟩ ?_
    refine n_putI (ji := 45) dX12_laysGluings_46 zf_X12_383 k_113 rfl (by decide) rfl ?_
    refine z_aload_n dX12_laysGluings_49 rfl ?_
    refine z_iload_n dX12_laysGluings_50 rfl ?_
    refine n_putI (ji := 46) dX12_laysGluings_51 zf_X12_386 k_113 rfl (by decide) rfl ?_
    refine z_aload_n dX12_laysGluings_54 rfl ?_
    refine z_iconst dX12_laysGluings_55 ⟨by decide, by decide⟩ ?_
    refine n_vI (as := [(0, 0)]) (rest := []) dX12_laysGluings_56 zm_X12_glues zs_X12_392 k_113 (by decide) rfl rfl (Nat.le_of_ble_eq_true rfl) (Nat.le_of_ble_eq_true rfl) (h.1 q1) (fun x5 m3 h4 => ?_)
    refine n_istore_n (lo' := [some (2, 113), some (0, v1), some (0, x5)]) dX12_laysGluings_59 ⟨Nat.le_of_ble_eq_true rfl, Nat.le_of_ble_eq_true rfl⟩ rfl ?_
    refine z_aload_n dX12_laysGluings_60 rfl ?_
    refine n_getf (ji := 45) (t := 0) dX12_laysGluings_61 zf_X12_383 k_113 rfl (by decide) rfl ?_
    exact z_ireturn dX12_laysGluings_64 rfl rfl ⟨_, rfl, h4⟩
  · refine z_aload_n dX12_laysGluings_31 rfl ?_
    refine n_getp (ji := 42) dX12_laysGluings_32 zf_X12_96 k_113 rfl (by decide) rfl p_113_42 ?_
    refine z_iload_n dX12_laysGluings_35 rfl ?_
    refine z_iconst dX12_laysGluings_36 ⟨by decide, by decide⟩ ?_
    refine n_iast dX12_laysGluings_37 k_142 (h.2 q2).1 ?_
    refine n_iinc (lo' := [some (2, 113), some (0, v1), some (0, v2 + 1)]) dX12_laysGluings_38 rfl (by decide) (h.2 q2).2.1 rfl ?_
    refine z_goto (tgt := 23) dX12_laysGluings_41 (by decide) ?_
    refine z_drop [some (2, 113), some (0, v1), some (0, v2 + 1)] ⟨rfl, rfl, rfl, trivial⟩ ?_
    exact (h.2 q2).2.2
set_option maxRecDepth 20000 in
theorem V_X12_gluings  {μ : z_Mem} {d : Nat} {K : Int → z_Mem → Prop} (h : z_ci m_X12_laysGluings [(2, 113), (0, (-1))] μ d (fun x3 m1 => K x3 m1)) : z_ci m_X12_gluings [(2, 113)] μ (d + 1) K := by
  show z_R m_X12_gluings 0 [some (2, 113)] [] z_n μ (d + 1) _
  refine z_aload_n dX12_gluings_0 rfl ?_
  refine z_iconst dX12_gluings_1 ⟨by decide, by decide⟩ ?_
  refine n_vI (as := [(0, (-1))]) (rest := []) dX12_gluings_2 zm_X12_laysGluings zs_X12_395 k_113 (by decide) rfl rfl (Nat.le_of_ble_eq_true rfl) (Nat.le_of_ble_eq_true rfl) h (fun x3 m1 h2 => ?_)
  exact z_ireturn dX12_gluings_5 rfl rfl ⟨_, rfl, h2⟩
set_option maxRecDepth 20000 in
theorem V_X12_laysOne {a : Int}  {μ : z_Mem} {d : Nat} {K : Int → z_Mem → Prop} (h : (0 ≤ a → z_ci m_X12_laysGluings [(2, 113), (0, a)] μ d (fun x5 m3 => (0 ≤ x5 → (¬ x5 = Int.bmod (a + 1) 4294967296 → K (-1) m3) ∧ (x5 = Int.bmod (a + 1) 4294967296 → K 1 m3)) ∧ (x5 < 0 → K x5 m3))) ∧ (a < 0 → K (-1) μ)) : z_ci m_X12_laysOne [(2, 113), (0, a)] μ (d + 1) K := by
  show z_R m_X12_laysOne 0 [some (2, 113), some (0, a), none] [] z_n μ (d + 1) _
  refine z_iload_n dX12_laysOne_0 rfl ?_
  refine z_if_ge (tgt := 6) dX12_laysOne_1 (by decide) (fun q1 => ?_) (fun q2 => ?_)
  · refine z_aload_n dX12_laysOne_6 rfl ?_
    refine z_iload_n dX12_laysOne_7 rfl ?_
    refine n_vI (as := [(0, a)]) (rest := []) dX12_laysOne_8 zm_X12_laysGluings zs_X12_395 k_113 (by decide) rfl rfl (Nat.le_of_ble_eq_true rfl) (Nat.le_of_ble_eq_true rfl) (h.1 q1) (fun x5 m3 h4 => ?_)
    refine n_istore_n (lo' := [some (2, 113), some (0, a), some (0, x5)]) dX12_laysOne_11 ⟨Nat.le_of_ble_eq_true rfl, Nat.le_of_ble_eq_true rfl⟩ rfl ?_
    refine z_iload_n dX12_laysOne_12 rfl ?_
    refine z_if_ge (tgt := 20) dX12_laysOne_13 (by decide) (fun q6 => ?_) (fun q7 => ?_)
    · refine z_iload_n dX12_laysOne_20 rfl ?_
      refine z_iload_n dX12_laysOne_21 rfl ?_
      refine z_iconst dX12_laysOne_22 ⟨by decide, by decide⟩ ?_
      refine n_iaddw dX12_laysOne_23 ?_
      refine z_icmp_ne (tgt := 31) dX12_laysOne_24 (by decide) (fun q8 => ?_) (fun q9 => ?_)
      · refine z_iconst dX12_laysOne_31 ⟨by decide, by decide⟩ ?_
        exact z_ireturn dX12_laysOne_32 rfl rfl ⟨_, rfl, ((h4.1 q6).1 q8)⟩
      · refine z_iconst dX12_laysOne_27 ⟨by decide, by decide⟩ ?_
        refine z_goto (tgt := 32) dX12_laysOne_28 (by decide) ?_
        exact z_ireturn dX12_laysOne_32 rfl rfl ⟨_, rfl, ((h4.1 q6).2 q9)⟩
    · refine z_iload_n dX12_laysOne_16 rfl ?_
      refine z_goto (tgt := 32) dX12_laysOne_17 (by decide) ?_
      exact z_ireturn dX12_laysOne_32 rfl rfl ⟨_, rfl, (h4.2 q7)⟩
  · refine z_iconst dX12_laysOne_4 ⟨by decide, by decide⟩ ?_
    exact z_ireturn dX12_laysOne_5 rfl rfl ⟨_, rfl, (h.2 q2)⟩
set_option maxRecDepth 20000 in
theorem V_X12_glued {a b : Int}  {μ : z_Mem} {d : Nat} {K : Int → z_Mem → Prop} (h : z_ci m_X12_laysRim [(2, 113)] μ d (fun x3 m1 => (x3 = 0 → K (-1) m1) ∧ (¬ x3 = 0 → z_I ((m1 113 41) - 1) ∧ (z_ci m_X12_in [(1, b), (1, 0), (1, (m1 113 41) - 1)] m1 d (fun x8 m6 => (x8 = 0 → K (-1) m6) ∧ (¬ x8 = 0 → (0 ≤ a → z_ci m_X12_laysOne [(2, 113), (0, a)] m6 d (fun x15 m13 => (¬ x15 = 1 → K x15 m13) ∧ (x15 = 1 → ((0 : Int) ≤ b ∧ b < 22) ∧ (K (m13 142 b) m13)))) ∧ (a < 0 → K (-1) m6))))))) : z_ci m_X12_glued [(2, 113), (0, a), (0, b)] μ (d + 1) K := by
  show z_R m_X12_glued 0 [some (2, 113), some (0, a), some (0, b), none] [] z_n μ (d + 1) _
  refine z_aload_n dX12_glued_0 rfl ?_
  refine n_vI (as := []) (rest := []) dX12_glued_1 zm_X12_laysRim zs_X12_368 k_113 (by decide) rfl rfl (Nat.le_of_ble_eq_true rfl) (Nat.le_of_ble_eq_true rfl) h (fun x3 m1 h2 => ?_)
  refine z_if_eq (tgt := 27) dX12_glued_4 (by decide) (fun q4 => ?_) (fun q5 => ?_)
  · refine z_iconst dX12_glued_27 ⟨by decide, by decide⟩ ?_
    exact z_ireturn dX12_glued_28 rfl rfl ⟨_, rfl, (h2.1 q4)⟩
  · refine z_iload_n dX12_glued_7 rfl ?_
    refine z_i2l_ dX12_glued_8 ?_
    refine z_lconst0 dX12_glued_9 ?_
    refine z_aload_n dX12_glued_10 rfl ?_
    refine n_getf (ji := 41) (t := 0) dX12_glued_11 zf_X12_362 k_113 rfl (by decide) rfl ?_
    refine z_iconst dX12_glued_14 ⟨by decide, by decide⟩ ?_
    refine z_isub dX12_glued_15 (h2.2 q5).1 ?_
    refine z_i2l_ dX12_glued_16 ?_
    refine n_sI (as := [(1, b), (1, 0), (1, (m1 113 41) - 1)]) (rest := []) dX12_glued_17 zm_X12_in zs_X12_143 rfl rfl (Nat.le_of_ble_eq_true rfl) (Nat.le_of_ble_eq_true rfl) (h2.2 q5).2 (fun x8 m6 h7 => ?_)
    refine z_if_eq (tgt := 27) dX12_glued_20 (by decide) (fun q9 => ?_) (fun q10 => ?_)
    · refine z_iconst dX12_glued_27 ⟨by decide, by decide⟩ ?_
      exact z_ireturn dX12_glued_28 rfl rfl ⟨_, rfl, (h7.1 q9)⟩
    · refine z_iload_n dX12_glued_23 rfl ?_
      refine z_if_ge (tgt := 29) dX12_glued_24 (by decide) (fun q11 => ?_) (fun q12 => ?_)
      · refine z_aload_n dX12_glued_29 rfl ?_
        refine z_iload_n dX12_glued_30 rfl ?_
        refine n_vI (as := [(0, a)]) (rest := []) dX12_glued_31 zm_X12_laysOne zs_X12_398 k_113 (by decide) rfl rfl (Nat.le_of_ble_eq_true rfl) (Nat.le_of_ble_eq_true rfl) ((h7.2 q10).1 q11) (fun x15 m13 h14 => ?_)
        refine n_istore_n (lo' := [some (2, 113), some (0, a), some (0, b), some (0, x15)]) dX12_glued_34 ⟨Nat.le_of_ble_eq_true rfl, Nat.le_of_ble_eq_true rfl⟩ rfl ?_
        refine z_iload_n dX12_glued_35 rfl ?_
        refine z_iconst dX12_glued_36 ⟨by decide, by decide⟩ ?_
        refine z_icmp_ne (tgt := 49) dX12_glued_37 (by decide) (fun q16 => ?_) (fun q17 => ?_)
        · refine z_iload_n dX12_glued_49 rfl ?_
          exact z_ireturn dX12_glued_50 rfl rfl ⟨_, rfl, (h14.1 q16)⟩
        · refine z_aload_n dX12_glued_40 rfl ?_
          refine n_getp (ji := 42) dX12_glued_41 zf_X12_96 k_113 rfl (by decide) rfl p_113_42 ?_
          refine z_iload_n dX12_glued_44 rfl ?_
          refine n_iald dX12_glued_45 k_142 (h14.2 q17).1 ?_
          refine z_goto (tgt := 50) dX12_glued_46 (by decide) ?_
          exact z_ireturn dX12_glued_50 rfl rfl ⟨_, rfl, (h14.2 q17).2⟩
      · refine z_iconst dX12_glued_27 ⟨by decide, by decide⟩ ?_
        exact z_ireturn dX12_glued_28 rfl rfl ⟨_, rfl, ((h7.2 q10).2 q12)⟩
set_option maxRecDepth 20000 in
theorem V_X12_lacks {a b : Int}  {μ : z_Mem} {d : Nat} {K : Int → z_Mem → Prop} (h : z_ci m_X12_in [(1, b), (1, 0), (1, 2)] μ d (fun x3 m1 => (¬ x3 = 0 → z_ci m_X12_laysOne [(2, 113), (0, a)] m1 d (fun x8 m6 => (x8 = 1 → z_ri m_X12_lacks 39 [some (2, 113), none, some (0, b), none, some (0, 0), some (0, 0), some (0, 4), some (0, 0)] m6 (d + 1) K) ∧ (¬ x8 = 1 → K x8 m6))) ∧ (x3 = 0 → K (-1) m1))) : z_ci m_X12_lacks [(2, 113), (0, a), (0, b)] μ (d + 1) K := by
  show z_R m_X12_lacks 0 [some (2, 113), some (0, a), some (0, b), none, none, none, none, none] [] z_n μ (d + 1) _
  refine z_iload_n dX12_lacks_0 rfl ?_
  refine z_i2l_ dX12_lacks_1 ?_
  refine z_lconst0 dX12_lacks_2 ?_
  refine z_ldc2 (n := 2) dX12_lacks_3 zc_1610 ⟨by decide, by decide⟩ ?_
  refine n_sI (as := [(1, b), (1, 0), (1, 2)]) (rest := []) dX12_lacks_6 zm_X12_in zs_X12_143 rfl rfl (Nat.le_of_ble_eq_true rfl) (Nat.le_of_ble_eq_true rfl) h (fun x3 m1 h2 => ?_)
  refine z_if_ne (tgt := 14) dX12_lacks_9 (by decide) (fun q4 => ?_) (fun q5 => ?_)
  · refine z_aload_n dX12_lacks_14 rfl ?_
    refine z_iload_n dX12_lacks_15 rfl ?_
    refine n_vI (as := [(0, a)]) (rest := []) dX12_lacks_16 zm_X12_laysOne zs_X12_398 k_113 (by decide) rfl rfl (Nat.le_of_ble_eq_true rfl) (Nat.le_of_ble_eq_true rfl) (h2.1 q4) (fun x8 m6 h7 => ?_)
    refine n_istore_n (lo' := [some (2, 113), some (0, a), some (0, b), some (0, x8), none, none, none, none]) dX12_lacks_19 ⟨Nat.le_of_ble_eq_true rfl, Nat.le_of_ble_eq_true rfl⟩ rfl ?_
    refine z_iload_n dX12_lacks_20 rfl ?_
    refine z_iconst dX12_lacks_21 ⟨by decide, by decide⟩ ?_
    refine z_icmp_eq (tgt := 27) dX12_lacks_22 (by decide) (fun q9 => ?_) (fun q10 => ?_)
    · refine z_iconst dX12_lacks_27 ⟨by decide, by decide⟩ ?_
      refine n_istore (lo' := [some (2, 113), some (0, a), some (0, b), some (0, x8), some (0, 0), none, none, none]) dX12_lacks_28 ⟨Nat.le_of_ble_eq_true rfl, Nat.le_of_ble_eq_true rfl⟩ rfl ?_
      refine z_iconst dX12_lacks_30 ⟨by decide, by decide⟩ ?_
      refine n_istore (lo' := [some (2, 113), some (0, a), some (0, b), some (0, x8), some (0, 0), some (0, 0), none, none]) dX12_lacks_31 ⟨Nat.le_of_ble_eq_true rfl, Nat.le_of_ble_eq_true rfl⟩ rfl ?_
      refine z_iconst dX12_lacks_33 ⟨by decide, by decide⟩ ?_
      refine n_istore (lo' := [some (2, 113), some (0, a), some (0, b), some (0, x8), some (0, 0), some (0, 0), some (0, 4), none]) dX12_lacks_34 ⟨Nat.le_of_ble_eq_true rfl, Nat.le_of_ble_eq_true rfl⟩ rfl ?_
      refine z_iconst dX12_lacks_36 ⟨by decide, by decide⟩ ?_
      refine n_istore (lo' := [some (2, 113), some (0, a), some (0, b), some (0, x8), some (0, 0), some (0, 0), some (0, 4), some (0, 0)]) dX12_lacks_37 ⟨Nat.le_of_ble_eq_true rfl, Nat.le_of_ble_eq_true rfl⟩ rfl ?_
      refine z_drop [some (2, 113), none, some (0, b), none, some (0, 0), some (0, 0), some (0, 4), some (0, 0)] ⟨rfl, rfl, rfl, rfl, rfl, rfl, trivial⟩ ?_
      exact (h7.1 q9)
    · refine z_iload_n dX12_lacks_25 rfl ?_
      exact z_ireturn dX12_lacks_26 rfl rfl ⟨_, rfl, (h7.2 q10)⟩
  · refine z_iconst dX12_lacks_12 ⟨by decide, by decide⟩ ?_
    exact z_ireturn dX12_lacks_13 rfl rfl ⟨_, rfl, (h2.2 q5)⟩
set_option maxRecDepth 20000 in
theorem V_X12_lacks_39 {v2 v4 v5 v6 v7 : Int}  {μ : z_Mem} {d : Nat} {K : Int → z_Mem → Prop} (h : (μ 113 41 ≤ v7 → (¬ v2 = 0 → (¬ v2 = 1 → K v6 μ) ∧ (v2 = 1 → K v5 μ)) ∧ (v2 = 0 → K v4 μ)) ∧ (v7 < μ 113 41 → ((0 : Int) ≤ v7 ∧ v7 < 22) ∧ ((μ 143 v7 = v7 → z_I (v4 + 1) ∧ (((0 : Int) ≤ v7 ∧ v7 < 22) ∧ ((4 ≤ μ 144 v7 → z_ci m_X12_truth [(0, 0)] μ d (fun x13 m11 => z_I (v5 + x13) ∧ (((0 : Int) ≤ v7 ∧ v7 < 22) ∧ (z_I (v7 + 1) ∧ (z_ri m_X12_lacks 39 [some (2, 113), none, some (0, v2), none, some (0, v4 + 1), some (0, v5 + x13), some (0, min v6 (m11 144 v7)), some (0, v7 + 1)] m11 (d + 1) K))))) ∧ (μ 144 v7 < 4 → z_ci m_X12_truth [(0, 1)] μ d (fun x16 m14 => z_I (v5 + x16) ∧ (((0 : Int) ≤ v7 ∧ v7 < 22) ∧ (z_I (v7 + 1) ∧ (z_ri m_X12_lacks 39 [some (2, 113), none, some (0, v2), none, some (0, v4 + 1), some (0, v5 + x16), some (0, min v6 (m14 144 v7)), some (0, v7 + 1)] m14 (d + 1) K)))))))) ∧ (¬ μ 143 v7 = v7 → z_I (v7 + 1) ∧ (z_ri m_X12_lacks 39 [some (2, 113), none, some (0, v2), none, some (0, v4), some (0, v5), some (0, v6), some (0, v7 + 1)] μ (d + 1) K))))) : z_ri m_X12_lacks 39 [some (2, 113), none, some (0, v2), none, some (0, v4), some (0, v5), some (0, v6), some (0, v7)] μ (d + 1) K := by
  show z_R m_X12_lacks 39 [some (2, 113), none, some (0, v2), none, some (0, v4), some (0, v5), some (0, v6), some (0, v7)] [] z_n μ (d + 1) _
  refine z_iload dX12_lacks_39 rfl ?_
  refine z_aload_n dX12_lacks_41 rfl ?_
  refine n_getf (ji := 41) (t := 0) dX12_lacks_42 zf_X12_362 k_113 rfl (by decide) rfl ?_
  refine z_icmp_ge (tgt := 110) dX12_lacks_45 (by decide) (fun q1 => ?_) (fun q2 => ?_)
  · refine z_iload_n dX12_lacks_110 rfl ?_
    refine z_if_ne (tgt := 119) dX12_lacks_111 (by decide) (fun q3 => ?_) (fun q4 => ?_)
    · refine z_iload_n dX12_lacks_119 rfl ?_
      refine z_iconst dX12_lacks_120 ⟨by decide, by decide⟩ ?_
      refine z_icmp_ne (tgt := 129) dX12_lacks_121 (by decide) (fun q5 => ?_) (fun q6 => ?_)
      · refine z_iload dX12_lacks_129 rfl ?_
        exact z_ireturn dX12_lacks_131 rfl rfl ⟨_, rfl, (((h.1 q1).1 q3).1 q5)⟩
      · refine z_iload dX12_lacks_124 rfl ?_
        refine z_goto (tgt := 131) dX12_lacks_126 (by decide) ?_
        exact z_ireturn dX12_lacks_131 rfl rfl ⟨_, rfl, (((h.1 q1).1 q3).2 q6)⟩
    · refine z_iload dX12_lacks_114 rfl ?_
      refine z_goto (tgt := 131) dX12_lacks_116 (by decide) ?_
      exact z_ireturn dX12_lacks_131 rfl rfl ⟨_, rfl, ((h.1 q1).2 q4)⟩
  · refine z_aload_n dX12_lacks_48 rfl ?_
    refine n_getp (ji := 43) dX12_lacks_49 zf_X12_99 k_113 rfl (by decide) rfl p_113_43 ?_
    refine z_iload dX12_lacks_52 rfl ?_
    refine n_iald dX12_lacks_54 k_143 (h.2 q2).1 ?_
    refine z_iload dX12_lacks_55 rfl ?_
    refine z_icmp_eq (tgt := 63) dX12_lacks_57 (by decide) (fun q7 => ?_) (fun q8 => ?_)
    · refine n_iinc (lo' := [some (2, 113), none, some (0, v2), none, some (0, v4 + 1), some (0, v5), some (0, v6), some (0, v7)]) dX12_lacks_63 rfl (by decide) ((h.2 q2).2.1 q7).1 rfl ?_
      refine z_iload dX12_lacks_66 rfl ?_
      refine z_aload_n dX12_lacks_68 rfl ?_
      refine n_getp (ji := 44) dX12_lacks_69 zf_X12_102 k_113 rfl (by decide) rfl p_113_44 ?_
      refine z_iload dX12_lacks_72 rfl ?_
      refine n_iald dX12_lacks_74 k_144 ((h.2 q2).2.1 q7).2.1 ?_
      refine z_iconst dX12_lacks_75 ⟨by decide, by decide⟩ ?_
      refine z_icmp_ge (tgt := 83) dX12_lacks_76 (by decide) (fun q9 => ?_) (fun q10 => ?_)
      · refine z_iconst dX12_lacks_83 ⟨by decide, by decide⟩ ?_
        refine n_sI (as := [(0, 0)]) (rest := [(0, v5)]) dX12_lacks_84 zm_X12_truth zs_X12_185 rfl rfl (Nat.le_of_ble_eq_true rfl) (Nat.le_of_ble_eq_true rfl) (((h.2 q2).2.1 q7).2.2.1 q9) (fun x13 m11 h12 => ?_)
        refine z_iadd dX12_lacks_87 h12.1 ?_
        refine n_istore (lo' := [some (2, 113), none, some (0, v2), none, some (0, v4 + 1), some (0, v5 + x13), some (0, v6), some (0, v7)]) dX12_lacks_88 ⟨Nat.le_of_ble_eq_true rfl, Nat.le_of_ble_eq_true rfl⟩ rfl ?_
        refine z_iload dX12_lacks_90 rfl ?_
        refine z_aload_n dX12_lacks_92 rfl ?_
        refine n_getp (ji := 44) dX12_lacks_93 zf_X12_102 k_113 rfl (by decide) rfl p_113_44 ?_
        refine z_iload dX12_lacks_96 rfl ?_
        refine n_iald dX12_lacks_98 k_144 h12.2.1 ?_
        refine z_mmin dX12_lacks_99 zq_1406 zq_592 zq_133 zq_593 (Nat.le_of_ble_eq_true rfl) ?_
        refine n_istore (lo' := [some (2, 113), none, some (0, v2), none, some (0, v4 + 1), some (0, v5 + x13), some (0, min v6 (m11 144 v7)), some (0, v7)]) dX12_lacks_102 ⟨Nat.le_of_ble_eq_true rfl, Nat.le_of_ble_eq_true rfl⟩ rfl ?_
        refine n_iinc (lo' := [some (2, 113), none, some (0, v2), none, some (0, v4 + 1), some (0, v5 + x13), some (0, min v6 (m11 144 v7)), some (0, v7 + 1)]) dX12_lacks_104 rfl (by decide) h12.2.2.1 rfl ?_
        refine z_goto (tgt := 39) dX12_lacks_107 (by decide) ?_
        refine z_drop [some (2, 113), none, some (0, v2), none, some (0, v4 + 1), some (0, v5 + x13), some (0, min v6 (m11 144 v7)), some (0, v7 + 1)] ⟨rfl, rfl, rfl, rfl, rfl, rfl, trivial⟩ ?_
        exact h12.2.2.2
      · refine z_iconst dX12_lacks_79 ⟨by decide, by decide⟩ ?_
        refine z_goto (tgt := 84) dX12_lacks_80 (by decide) ?_
        refine n_sI (as := [(0, 1)]) (rest := [(0, v5)]) dX12_lacks_84 zm_X12_truth zs_X12_185 rfl rfl (Nat.le_of_ble_eq_true rfl) (Nat.le_of_ble_eq_true rfl) (((h.2 q2).2.1 q7).2.2.2 q10) (fun x16 m14 h15 => ?_)
        refine z_iadd dX12_lacks_87 h15.1 ?_
        refine n_istore (lo' := [some (2, 113), none, some (0, v2), none, some (0, v4 + 1), some (0, v5 + x16), some (0, v6), some (0, v7)]) dX12_lacks_88 ⟨Nat.le_of_ble_eq_true rfl, Nat.le_of_ble_eq_true rfl⟩ rfl ?_
        refine z_iload dX12_lacks_90 rfl ?_
        refine z_aload_n dX12_lacks_92 rfl ?_
        refine n_getp (ji := 44) dX12_lacks_93 zf_X12_102 k_113 rfl (by decide) rfl p_113_44 ?_
        refine z_iload dX12_lacks_96 rfl ?_
        refine n_iald dX12_lacks_98 k_144 h15.2.1 ?_
        refine z_mmin dX12_lacks_99 zq_1406 zq_592 zq_133 zq_593 (Nat.le_of_ble_eq_true rfl) ?_
        refine n_istore (lo' := [some (2, 113), none, some (0, v2), none, some (0, v4 + 1), some (0, v5 + x16), some (0, min v6 (m14 144 v7)), some (0, v7)]) dX12_lacks_102 ⟨Nat.le_of_ble_eq_true rfl, Nat.le_of_ble_eq_true rfl⟩ rfl ?_
        refine n_iinc (lo' := [some (2, 113), none, some (0, v2), none, some (0, v4 + 1), some (0, v5 + x16), some (0, min v6 (m14 144 v7)), some (0, v7 + 1)]) dX12_lacks_104 rfl (by decide) h15.2.2.1 rfl ?_
        refine z_goto (tgt := 39) dX12_lacks_107 (by decide) ?_
        refine z_drop [some (2, 113), none, some (0, v2), none, some (0, v4 + 1), some (0, v5 + x16), some (0, min v6 (m14 144 v7)), some (0, v7 + 1)] ⟨rfl, rfl, rfl, rfl, rfl, rfl, trivial⟩ ?_
        exact h15.2.2.2
    · refine z_goto (tgt := 104) dX12_lacks_60 (by decide) ?_
      refine n_iinc (lo' := [some (2, 113), none, some (0, v2), none, some (0, v4), some (0, v5), some (0, v6), some (0, v7 + 1)]) dX12_lacks_104 rfl (by decide) ((h.2 q2).2.2 q8).1 rfl ?_
      refine z_goto (tgt := 39) dX12_lacks_107 (by decide) ?_
      refine z_drop [some (2, 113), none, some (0, v2), none, some (0, v4), some (0, v5), some (0, v6), some (0, v7 + 1)] ⟨rfl, rfl, rfl, rfl, rfl, rfl, trivial⟩ ?_
      exact ((h.2 q2).2.2 q8).2
set_option maxRecDepth 20000 in
theorem V_X12_isOwn  {μ : z_Mem} {d : Nat} {K : Int → z_Mem → Prop} (h : z_ri m_X12_isOwn 2 [some (2, 113), some (0, 0)] μ (d + 1) K) : z_ci m_X12_isOwn [(2, 113)] μ (d + 1) K := by
  show z_R m_X12_isOwn 0 [some (2, 113), none] [] z_n μ (d + 1) _
  refine z_iconst dX12_isOwn_0 ⟨by decide, by decide⟩ ?_
  refine n_istore_n (lo' := [some (2, 113), some (0, 0)]) dX12_isOwn_1 ⟨Nat.le_of_ble_eq_true rfl, Nat.le_of_ble_eq_true rfl⟩ rfl ?_
  refine z_drop [some (2, 113), some (0, 0)] ⟨rfl, rfl, trivial⟩ ?_
  exact h
set_option maxRecDepth 20000 in
theorem V_X12_isOwn_2 {v1 : Int}  {μ : z_Mem} {d : Nat} {K : Int → z_Mem → Prop} (h : (μ 113 41 ≤ v1 → K 1 μ) ∧ (v1 < μ 113 41 → ((0 : Int) ≤ v1 ∧ v1 < 22) ∧ (z_ci m_X12_partner [(2, 113), (0, v1)] μ d (fun x5 m3 => (μ 142 v1 = x5 → z_I (v1 + 1) ∧ (z_ri m_X12_isOwn 2 [some (2, 113), some (0, v1 + 1)] m3 (d + 1) K)) ∧ (¬ μ 142 v1 = x5 → K 0 m3))))) : z_ri m_X12_isOwn 2 [some (2, 113), some (0, v1)] μ (d + 1) K := by
  show z_R m_X12_isOwn 2 [some (2, 113), some (0, v1)] [] z_n μ (d + 1) _
  refine z_iload_n dX12_isOwn_2 rfl ?_
  refine z_aload_n dX12_isOwn_3 rfl ?_
  refine n_getf (ji := 41) (t := 0) dX12_isOwn_4 zf_X12_362 k_113 rfl (by decide) rfl ?_
  refine z_icmp_ge (tgt := 32) dX12_isOwn_7 (by decide) (fun q1 => ?_) (fun q2 => ?_)
  · refine z_iconst dX12_isOwn_32 ⟨by decide, by decide⟩ ?_
    exact z_zreturn dX12_isOwn_33 rfl rfl (by decide) ⟨_, rfl, (h.1 q1)⟩
  · refine z_aload_n dX12_isOwn_10 rfl ?_
    refine n_getp (ji := 42) dX12_isOwn_11 zf_X12_96 k_113 rfl (by decide) rfl p_113_42 ?_
    refine z_iload_n dX12_isOwn_14 rfl ?_
    refine n_iald dX12_isOwn_15 k_142 (h.2 q2).1 ?_
    refine z_aload_n dX12_isOwn_16 rfl ?_
    refine z_iload_n dX12_isOwn_17 rfl ?_
    refine n_vI (as := [(0, v1)]) (rest := [(0, μ 142 v1)]) dX12_isOwn_18 zm_X12_partner zs_X12_371 k_113 (by decide) rfl rfl (Nat.le_of_ble_eq_true rfl) (Nat.le_of_ble_eq_true rfl) (h.2 q2).2 (fun x5 m3 h4 => ?_)
    refine z_icmp_eq (tgt := 26) dX12_isOwn_21 (by decide) (fun q6 => ?_) (fun q7 => ?_)
    · refine n_iinc (lo' := [some (2, 113), some (0, v1 + 1)]) dX12_isOwn_26 rfl (by decide) (h4.1 q6).1 rfl ?_
      refine z_goto (tgt := 2) dX12_isOwn_29 (by decide) ?_
      refine z_drop [some (2, 113), some (0, v1 + 1)] ⟨rfl, rfl, trivial⟩ ?_
      exact (h4.1 q6).2
    · refine z_iconst dX12_isOwn_24 ⟨by decide, by decide⟩ ?_
      exact z_zreturn dX12_isOwn_25 rfl rfl (by decide) ⟨_, rfl, (h4.2 q7)⟩
set_option maxRecDepth 20000 in
theorem V_X12_itself  {μ : z_Mem} {d : Nat} {K : Int → z_Mem → Prop} (h : z_ci m_X12_laysGluings [(2, 113), (0, (-1))] μ d (fun x3 m1 => (0 ≤ x3 → z_ri m_X12_itself 14 [some (2, 113), some (0, x3), some (0, 0)] m1 (d + 1) K) ∧ (x3 < 0 → K x3 m1))) : z_ci m_X12_itself [(2, 113)] μ (d + 1) K := by
  show z_R m_X12_itself 0 [some (2, 113), none, none] [] z_n μ (d + 1) _
  refine z_aload_n dX12_itself_0 rfl ?_
  refine z_iconst dX12_itself_1 ⟨by decide, by decide⟩ ?_
  refine n_vI (as := [(0, (-1))]) (rest := []) dX12_itself_2 zm_X12_laysGluings zs_X12_395 k_113 (by decide) rfl rfl (Nat.le_of_ble_eq_true rfl) (Nat.le_of_ble_eq_true rfl) h (fun x3 m1 h2 => ?_)
  refine n_istore_n (lo' := [some (2, 113), some (0, x3), none]) dX12_itself_5 ⟨Nat.le_of_ble_eq_true rfl, Nat.le_of_ble_eq_true rfl⟩ rfl ?_
  refine z_iload_n dX12_itself_6 rfl ?_
  refine z_if_ge (tgt := 12) dX12_itself_7 (by decide) (fun q4 => ?_) (fun q5 => ?_)
  · refine z_iconst dX12_itself_12 ⟨by decide, by decide⟩ ?_
    refine n_istore_n (lo' := [some (2, 113), some (0, x3), some (0, 0)]) dX12_itself_13 ⟨Nat.le_of_ble_eq_true rfl, Nat.le_of_ble_eq_true rfl⟩ rfl ?_
    refine z_drop [some (2, 113), some (0, x3), some (0, 0)] ⟨rfl, rfl, rfl, trivial⟩ ?_
    exact (h2.1 q4)
  · refine z_iload_n dX12_itself_10 rfl ?_
    exact z_ireturn dX12_itself_11 rfl rfl ⟨_, rfl, (h2.2 q5)⟩
set_option maxRecDepth 20000 in
theorem V_X12_itself_14 {v1 v2 : Int}  {μ : z_Mem} {d : Nat} {K : Int → z_Mem → Prop} (h : (μ 113 41 ≤ v2 → z_ci m_X12_laysPoints [(2, 113)] μ d (fun x5 m3 => (¬ x5 = 0 → z_ri m_X12_itself 51 [some (2, 113), some (0, v1), some (0, 0)] m3 (d + 1) K) ∧ (x5 = 0 → K (-2) m3))) ∧ (v2 < μ 113 41 → z_ci m_X12_partner [(2, 113), (0, v2)] μ d (fun x10 m8 => ((0 : Int) ≤ v2 ∧ v2 < 22) ∧ (z_I (v2 + 1) ∧ (z_ri m_X12_itself 14 [some (2, 113), some (0, v1), some (0, v2 + 1)] (z_st m8 142 v2 x10) (d + 1) K))))) : z_ri m_X12_itself 14 [some (2, 113), some (0, v1), some (0, v2)] μ (d + 1) K := by
  show z_R m_X12_itself 14 [some (2, 113), some (0, v1), some (0, v2)] [] z_n μ (d + 1) _
  refine z_iload_n dX12_itself_14 rfl ?_
  refine z_aload_n dX12_itself_15 rfl ?_
  refine n_getf (ji := 41) (t := 0) dX12_itself_16 zf_X12_362 k_113 rfl (by decide) rfl ?_
  refine z_icmp_ge (tgt := 39) dX12_itself_19 (by decide) (fun q1 => ?_) (fun q2 => ?_)
  · refine z_aload_n dX12_itself_39 rfl ?_
    refine n_vI (as := []) (rest := []) dX12_itself_40 zm_X12_laysPoints zs_X12_380 k_113 (by decide) rfl rfl (Nat.le_of_ble_eq_true rfl) (Nat.le_of_ble_eq_true rfl) (h.1 q1) (fun x5 m3 h4 => ?_)
    refine z_if_ne (tgt := 49) dX12_itself_43 (by decide) (fun q6 => ?_) (fun q7 => ?_)
    · refine z_iconst dX12_itself_49 ⟨by decide, by decide⟩ ?_
      refine n_istore_n (lo' := [some (2, 113), some (0, v1), some (0, 0)]) dX12_itself_50 ⟨Nat.le_of_ble_eq_true rfl, Nat.le_of_ble_eq_true rfl⟩ rfl ?_
      refine z_drop [some (2, 113), some (0, v1), some (0, 0)] ⟨rfl, rfl, rfl, trivial⟩ ?_
      exact (h4.1 q6)
    · refine z_bipush dX12_itself_46 (by decide) ?_
      exact z_ireturn dX12_itself_48 rfl rfl ⟨_, rfl, (h4.2 q7)⟩
  · refine z_aload_n dX12_itself_22 rfl ?_
    refine n_getp (ji := 42) dX12_itself_23 zf_X12_96 k_113 rfl (by decide) rfl p_113_42 ?_
    refine z_iload_n dX12_itself_26 rfl ?_
    refine z_aload_n dX12_itself_27 rfl ?_
    refine z_iload_n dX12_itself_28 rfl ?_
    refine n_vI (as := [(0, v2)]) (rest := [(0, v2), (2, 142)]) dX12_itself_29 zm_X12_partner zs_X12_371 k_113 (by decide) rfl rfl (Nat.le_of_ble_eq_true rfl) (Nat.le_of_ble_eq_true rfl) (h.2 q2) (fun x10 m8 h9 => ?_)
    refine n_iast dX12_itself_32 k_142 h9.1 ?_
    refine n_iinc (lo' := [some (2, 113), some (0, v1), some (0, v2 + 1)]) dX12_itself_33 rfl (by decide) h9.2.1 rfl ?_
    refine z_goto (tgt := 14) dX12_itself_36 (by decide) ?_
    refine z_drop [some (2, 113), some (0, v1), some (0, v2 + 1)] ⟨rfl, rfl, rfl, trivial⟩ ?_
    exact h9.2.2
set_option maxRecDepth 20000 in
theorem V_X12_itself_51 {v1 v2 : Int}  {μ : z_Mem} {d : Nat} {K : Int → z_Mem → Prop} (h : (v1 ≤ v2 → K (-2) μ) ∧ (v2 < v1 → z_ci m_X12_laysGluings [(2, 113), (0, v2)] μ d (fun x5 m3 => z_ci m_X12_isOwn [(2, 113)] m3 d (fun x8 m6 => (x8 = 0 → z_I (v2 + 1) ∧ (z_ri m_X12_itself 51 [some (2, 113), some (0, v1), some (0, v2 + 1)] m6 (d + 1) K)) ∧ (¬ x8 = 0 → K v2 m6))))) : z_ri m_X12_itself 51 [some (2, 113), some (0, v1), some (0, v2)] μ (d + 1) K := by
  show z_R m_X12_itself 51 [some (2, 113), some (0, v1), some (0, v2)] [] z_n μ (d + 1) _
  refine z_iload_n dX12_itself_51 rfl ?_
  refine z_iload_n dX12_itself_52 rfl ?_
  refine z_icmp_ge (tgt := 77) dX12_itself_53 (by decide) (fun q1 => ?_) (fun q2 => ?_)
  · refine z_bipush dX12_itself_77 (by decide) ?_
    exact z_ireturn dX12_itself_79 rfl rfl ⟨_, rfl, (h.1 q1)⟩
  · refine z_aload_n dX12_itself_56 rfl ?_
    refine z_iload_n dX12_itself_57 rfl ?_
    refine n_vI (as := [(0, v2)]) (rest := []) dX12_itself_58 zm_X12_laysGluings zs_X12_395 k_113 (by decide) rfl rfl (Nat.le_of_ble_eq_true rfl) (Nat.le_of_ble_eq_true rfl) (h.2 q2) (fun x5 m3 h4 => ?_)
    refine z_pop dX12_itself_61 rfl ?_
    refine z_aload_n dX12_itself_62 rfl ?_
    refine n_vI (as := []) (rest := []) dX12_itself_63 zm_X12_isOwn zs_X12_401 k_113 (by decide) rfl rfl (Nat.le_of_ble_eq_true rfl) (Nat.le_of_ble_eq_true rfl) h4 (fun x8 m6 h7 => ?_)
    refine z_if_eq (tgt := 71) dX12_itself_66 (by decide) (fun q9 => ?_) (fun q10 => ?_)
    · refine n_iinc (lo' := [some (2, 113), some (0, v1), some (0, v2 + 1)]) dX12_itself_71 rfl (by decide) (h7.1 q9).1 rfl ?_
      refine z_goto (tgt := 51) dX12_itself_74 (by decide) ?_
      refine z_drop [some (2, 113), some (0, v1), some (0, v2 + 1)] ⟨rfl, rfl, rfl, trivial⟩ ?_
      exact (h7.1 q9).2
    · refine z_iload_n dX12_itself_69 rfl ?_
      exact z_ireturn dX12_itself_70 rfl rfl ⟨_, rfl, (h7.2 q10)⟩
set_option maxRecDepth 20000 in
theorem V_X12_sorts {a : Int}  {μ : z_Mem} {d : Nat} {K : z_Mem → Prop} (h : z_rn m_X12_sorts 2 [some (2, 113), some (0, a), some (0, 1), none, none] μ d K) : z_cn m_X12_sorts [(2, 113), (0, a)] μ d K := by
  show z_R m_X12_sorts 0 [some (2, 113), some (0, a), none, none, none] [] z_n μ d _
  refine z_iconst dX12_sorts_0 ⟨by decide, by decide⟩ ?_
  refine n_istore_n (lo' := [some (2, 113), some (0, a), some (0, 1), none, none]) dX12_sorts_1 ⟨Nat.le_of_ble_eq_true rfl, Nat.le_of_ble_eq_true rfl⟩ rfl ?_
  refine z_drop [some (2, 113), some (0, a), some (0, 1), none, none] ⟨rfl, rfl, rfl, trivial⟩ ?_
  exact h
set_option maxRecDepth 20000 in
theorem V_X12_sorts_2 {v1 v2 : Int}  {μ : z_Mem} {d : Nat} {K : z_Mem → Prop} (h : (v1 ≤ v2 → K μ) ∧ (v2 < v1 → z_rn m_X12_sorts 9 [some (2, 113), some (0, v1), some (0, v2), some (0, v2), none] μ d K)) : z_rn m_X12_sorts 2 [some (2, 113), some (0, v1), some (0, v2), none, none] μ d K := by
  show z_R m_X12_sorts 2 [some (2, 113), some (0, v1), some (0, v2), none, none] [] z_n μ d _
  refine z_iload_n dX12_sorts_2 rfl ?_
  refine z_iload_n dX12_sorts_3 rfl ?_
  refine z_icmp_ge (tgt := 74) dX12_sorts_4 (by decide) (fun q1 => ?_) (fun q2 => ?_)
  · exact z_return dX12_sorts_74 rfl rfl ⟨rfl, (h.1 q1)⟩
  · refine z_iload_n dX12_sorts_7 rfl ?_
    refine n_istore_n (lo' := [some (2, 113), some (0, v1), some (0, v2), some (0, v2), none]) dX12_sorts_8 ⟨Nat.le_of_ble_eq_true rfl, Nat.le_of_ble_eq_true rfl⟩ rfl ?_
    refine z_drop [some (2, 113), some (0, v1), some (0, v2), some (0, v2), none] ⟨rfl, rfl, rfl, rfl, trivial⟩ ?_
    exact (h.2 q2)
set_option maxRecDepth 20000 in
theorem V_X12_sorts_9 {v1 v2 v3 : Int}  {μ : z_Mem} {d : Nat} {K : z_Mem → Prop} (h : (v3 ≤ 0 → z_I (v2 + 1) ∧ (z_rn m_X12_sorts 2 [some (2, 113), some (0, v1), some (0, v2 + 1), none, none] μ d K)) ∧ (0 < v3 → ((0 : Int) ≤ v3 ∧ v3 < 30) ∧ (z_I (v3 - 1) ∧ (((0 : Int) ≤ v3 - 1 ∧ v3 - 1 < 30) ∧ ((μ 145 (v3 - 1) ≤ μ 145 v3 → z_I (v2 + 1) ∧ (z_rn m_X12_sorts 2 [some (2, 113), some (0, v1), some (0, v2 + 1), none, none] μ d K)) ∧ (μ 145 v3 < μ 145 (v3 - 1) → ((0 : Int) ≤ v3 ∧ v3 < 30) ∧ (z_I (v3 - 1) ∧ (((0 : Int) ≤ v3 - 1 ∧ v3 - 1 < 30) ∧ (((0 : Int) ≤ v3 ∧ v3 < 30) ∧ (z_I (v3 - 1) ∧ (((0 : Int) ≤ v3 - 1 ∧ v3 - 1 < 30) ∧ (z_I (v3 + (-1)) ∧ (z_rn m_X12_sorts 9 [some (2, 113), some (0, v1), some (0, v2), some (0, v3 + (-1)), none] (z_st (z_st μ 145 v3 (μ 145 (v3 - 1))) 145 (v3 - 1) (μ 145 v3)) d K))))))))))))) : z_rn m_X12_sorts 9 [some (2, 113), some (0, v1), some (0, v2), some (0, v3), none] μ d K := by
  show z_R m_X12_sorts 9 [some (2, 113), some (0, v1), some (0, v2), some (0, v3), none] [] z_n μ d _
  refine z_iload_n dX12_sorts_9 rfl ?_
  refine z_if_le (tgt := 68) dX12_sorts_10 (by decide) (fun q1 => ?_) (fun q2 => ?_)
  · refine n_iinc (lo' := [some (2, 113), some (0, v1), some (0, v2 + 1), some (0, v3), none]) dX12_sorts_68 rfl (by decide) (h.1 q1).1 rfl ?_
    refine z_goto (tgt := 2) dX12_sorts_71 (by decide) ?_
    refine z_drop [some (2, 113), some (0, v1), some (0, v2 + 1), none, none] ⟨rfl, rfl, rfl, trivial⟩ ?_
    exact (h.1 q1).2
  · refine z_aload_n dX12_sorts_13 rfl ?_
    refine n_getp (ji := 47) dX12_sorts_14 zf_X12_105 k_113 rfl (by decide) rfl p_113_47 ?_
    refine z_iload_n dX12_sorts_17 rfl ?_
    refine n_iald dX12_sorts_18 k_145 (h.2 q2).1 ?_
    refine z_aload_n dX12_sorts_19 rfl ?_
    refine n_getp (ji := 47) dX12_sorts_20 zf_X12_105 k_113 rfl (by decide) rfl p_113_47 ?_
    refine z_iload_n dX12_sorts_23 rfl ?_
    refine z_iconst dX12_sorts_24 ⟨by decide, by decide⟩ ?_
    refine z_isub dX12_sorts_25 (h.2 q2).2.1 ?_
    refine n_iald dX12_sorts_26 k_145 (h.2 q2).2.2.1 ?_
    refine z_icmp_ge (tgt := 68) dX12_sorts_27 (by decide) (fun q3 => ?_) (fun q4 => ?_)
    · refine n_iinc (lo' := [some (2, 113), some (0, v1), some (0, v2 + 1), some (0, v3), none]) dX12_sorts_68 rfl (by decide) ((h.2 q2).2.2.2.1 q3).1 rfl ?_
      refine z_goto (tgt := 2) dX12_sorts_71 (by decide) ?_
      refine z_drop [some (2, 113), some (0, v1), some (0, v2 + 1), none, none] ⟨rfl, rfl, rfl, trivial⟩ ?_
      exact ((h.2 q2).2.2.2.1 q3).2
    · refine z_aload_n dX12_sorts_30 rfl ?_
      refine n_getp (ji := 47) dX12_sorts_31 zf_X12_105 k_113 rfl (by decide) rfl p_113_47 ?_
      refine z_iload_n dX12_sorts_34 rfl ?_
      refine n_iald dX12_sorts_35 k_145 ((h.2 q2).2.2.2.2 q4).1 ?_
      refine n_istore (lo' := [some (2, 113), some (0, v1), some (0, v2), some (0, v3), some (0, μ 145 v3)]) dX12_sorts_36 ⟨Nat.le_of_ble_eq_true rfl, Nat.le_of_ble_eq_true rfl⟩ rfl ?_
      refine z_aload_n dX12_sorts_38 rfl ?_
      refine n_getp (ji := 47) dX12_sorts_39 zf_X12_105 k_113 rfl (by decide) rfl p_113_47 ?_
      refine z_iload_n dX12_sorts_42 rfl ?_
      refine z_aload_n dX12_sorts_43 rfl ?_
      refine n_getp (ji := 47) dX12_sorts_44 zf_X12_105 k_113 rfl (by decide) rfl p_113_47 ?_
      refine z_iload_n dX12_sorts_47 rfl ?_
      refine z_iconst dX12_sorts_48 ⟨by decide, by decide⟩ ?_
      refine z_isub dX12_sorts_49 ((h.2 q2).2.2.2.2 q4).2.1 ?_
      refine n_iald dX12_sorts_50 k_145 ((h.2 q2).2.2.2.2 q4).2.2.1 ?_
      refine n_iast dX12_sorts_51 k_145 ((h.2 q2).2.2.2.2 q4).2.2.2.1 ?_
      refine z_aload_n dX12_sorts_52 rfl ?_
      refine n_getp (ji := 47) dX12_sorts_53 zf_X12_105 k_113 rfl (by decide) rfl p_113_47 ?_
      refine z_iload_n dX12_sorts_56 rfl ?_
      refine z_iconst dX12_sorts_57 ⟨by decide, by decide⟩ ?_
      refine z_isub dX12_sorts_58 ((h.2 q2).2.2.2.2 q4).2.2.2.2.1 ?_
      refine z_iload dX12_sorts_59 rfl ?_
      refine n_iast dX12_sorts_61 k_145 ((h.2 q2).2.2.2.2 q4).2.2.2.2.2.1 ?_
      refine n_iinc (lo' := [some (2, 113), some (0, v1), some (0, v2), some (0, v3 + (-1)), some (0, μ 145 v3)]) dX12_sorts_62 rfl (by decide) ((h.2 q2).2.2.2.2 q4).2.2.2.2.2.2.1 rfl ?_
      refine z_goto (tgt := 9) dX12_sorts_65 (by decide) ?_
      refine z_drop [some (2, 113), some (0, v1), some (0, v2), some (0, v3 + (-1)), none] ⟨rfl, rfl, rfl, rfl, trivial⟩ ?_
      exact ((h.2 q2).2.2.2.2 q4).2.2.2.2.2.2.2
set_option maxRecDepth 20000 in
theorem V_X12_turnedX {a b c : Int}  {μ : z_Mem} {d : Nat} {K : Int → z_Mem → Prop} (h : (c ≤ 3 → ((0 : Int) ≤ c) ∧ ((¬ c % 4 = 0 → ((0 : Int) ≤ c) ∧ ((¬ c % 4 = 1 → ((0 : Int) ≤ c) ∧ ((¬ c % 4 = 2 → K b μ) ∧ (c % 4 = 2 → z_I (-a) ∧ (K (-a) μ)))) ∧ (c % 4 = 1 → z_I (-b) ∧ (K (-b) μ)))) ∧ (c % 4 = 0 → K a μ))) ∧ (3 < c → z_I (-a) ∧ (((0 : Int) ≤ c) ∧ ((¬ c % 4 = 0 → ((0 : Int) ≤ c) ∧ ((¬ c % 4 = 1 → ((0 : Int) ≤ c) ∧ ((¬ c % 4 = 2 → K b μ) ∧ (c % 4 = 2 → z_I (-(-a)) ∧ (K (-(-a)) μ)))) ∧ (c % 4 = 1 → z_I (-b) ∧ (K (-b) μ)))) ∧ (c % 4 = 0 → K (-a) μ))))) : z_ci m_X12_turnedX [(0, a), (0, b), (0, c)] μ d K := by
  show z_R m_X12_turnedX 0 [some (0, a), some (0, b), some (0, c), none] [] z_n μ d _
  refine z_iload_n dX12_turnedX_0 rfl ?_
  refine z_iconst dX12_turnedX_1 ⟨by decide, by decide⟩ ?_
  refine z_icmp_le (tgt := 10) dX12_turnedX_2 (by decide) (fun q1 => ?_) (fun q2 => ?_)
  · refine z_iload_n dX12_turnedX_10 rfl ?_
    refine n_istore_n (lo' := [some (0, a), some (0, b), some (0, c), some (0, a)]) dX12_turnedX_11 ⟨Nat.le_of_ble_eq_true rfl, Nat.le_of_ble_eq_true rfl⟩ rfl ?_
    refine z_iload_n dX12_turnedX_12 rfl ?_
    refine z_iconst dX12_turnedX_13 ⟨by decide, by decide⟩ ?_
    refine z_irem dX12_turnedX_14 (h.1 q1).1 (by decide) ?_
    refine z_if_ne (tgt := 22) dX12_turnedX_15 (by decide) (fun q3 => ?_) (fun q4 => ?_)
    · refine z_iload_n dX12_turnedX_22 rfl ?_
      refine z_iconst dX12_turnedX_23 ⟨by decide, by decide⟩ ?_
      refine z_irem dX12_turnedX_24 ((h.1 q1).2.1 q3).1 (by decide) ?_
      refine z_iconst dX12_turnedX_25 ⟨by decide, by decide⟩ ?_
      refine z_icmp_ne (tgt := 34) dX12_turnedX_26 (by decide) (fun q5 => ?_) (fun q6 => ?_)
      · refine z_iload_n dX12_turnedX_34 rfl ?_
        refine z_iconst dX12_turnedX_35 ⟨by decide, by decide⟩ ?_
        refine z_irem dX12_turnedX_36 (((h.1 q1).2.1 q3).2.1 q5).1 (by decide) ?_
        refine z_iconst dX12_turnedX_37 ⟨by decide, by decide⟩ ?_
        refine z_icmp_ne (tgt := 46) dX12_turnedX_38 (by decide) (fun q7 => ?_) (fun q8 => ?_)
        · refine z_iload_n dX12_turnedX_46 rfl ?_
          exact z_ireturn dX12_turnedX_47 rfl rfl ⟨_, rfl, ((((h.1 q1).2.1 q3).2.1 q5).2.1 q7)⟩
        · refine z_iload_n dX12_turnedX_41 rfl ?_
          refine z_ineg dX12_turnedX_42 ((((h.1 q1).2.1 q3).2.1 q5).2.2 q8).1 ?_
          refine z_goto (tgt := 47) dX12_turnedX_43 (by decide) ?_
          exact z_ireturn dX12_turnedX_47 rfl rfl ⟨_, rfl, ((((h.1 q1).2.1 q3).2.1 q5).2.2 q8).2⟩
      · refine z_iload_n dX12_turnedX_29 rfl ?_
        refine z_ineg dX12_turnedX_30 (((h.1 q1).2.1 q3).2.2 q6).1 ?_
        refine z_goto (tgt := 47) dX12_turnedX_31 (by decide) ?_
        exact z_ireturn dX12_turnedX_47 rfl rfl ⟨_, rfl, (((h.1 q1).2.1 q3).2.2 q6).2⟩
    · refine z_iload_n dX12_turnedX_18 rfl ?_
      refine z_goto (tgt := 47) dX12_turnedX_19 (by decide) ?_
      exact z_ireturn dX12_turnedX_47 rfl rfl ⟨_, rfl, ((h.1 q1).2.2 q4)⟩
  · refine z_iload_n dX12_turnedX_5 rfl ?_
    refine z_ineg dX12_turnedX_6 (h.2 q2).1 ?_
    refine z_goto (tgt := 11) dX12_turnedX_7 (by decide) ?_
    refine n_istore_n (lo' := [some (0, a), some (0, b), some (0, c), some (0, -a)]) dX12_turnedX_11 ⟨Nat.le_of_ble_eq_true rfl, Nat.le_of_ble_eq_true rfl⟩ rfl ?_
    refine z_iload_n dX12_turnedX_12 rfl ?_
    refine z_iconst dX12_turnedX_13 ⟨by decide, by decide⟩ ?_
    refine z_irem dX12_turnedX_14 (h.2 q2).2.1 (by decide) ?_
    refine z_if_ne (tgt := 22) dX12_turnedX_15 (by decide) (fun q9 => ?_) (fun q10 => ?_)
    · refine z_iload_n dX12_turnedX_22 rfl ?_
      refine z_iconst dX12_turnedX_23 ⟨by decide, by decide⟩ ?_
      refine z_irem dX12_turnedX_24 ((h.2 q2).2.2.1 q9).1 (by decide) ?_
      refine z_iconst dX12_turnedX_25 ⟨by decide, by decide⟩ ?_
      refine z_icmp_ne (tgt := 34) dX12_turnedX_26 (by decide) (fun q11 => ?_) (fun q12 => ?_)
      · refine z_iload_n dX12_turnedX_34 rfl ?_
        refine z_iconst dX12_turnedX_35 ⟨by decide, by decide⟩ ?_
        refine z_irem dX12_turnedX_36 (((h.2 q2).2.2.1 q9).2.1 q11).1 (by decide) ?_
        refine z_iconst dX12_turnedX_37 ⟨by decide, by decide⟩ ?_
        refine z_icmp_ne (tgt := 46) dX12_turnedX_38 (by decide) (fun q13 => ?_) (fun q14 => ?_)
        · refine z_iload_n dX12_turnedX_46 rfl ?_
          exact z_ireturn dX12_turnedX_47 rfl rfl ⟨_, rfl, ((((h.2 q2).2.2.1 q9).2.1 q11).2.1 q13)⟩
        · refine z_iload_n dX12_turnedX_41 rfl ?_
          refine z_ineg dX12_turnedX_42 ((((h.2 q2).2.2.1 q9).2.1 q11).2.2 q14).1 ?_
          refine z_goto (tgt := 47) dX12_turnedX_43 (by decide) ?_
          exact z_ireturn dX12_turnedX_47 rfl rfl ⟨_, rfl, ((((h.2 q2).2.2.1 q9).2.1 q11).2.2 q14).2⟩
      · refine z_iload_n dX12_turnedX_29 rfl ?_
        refine z_ineg dX12_turnedX_30 (((h.2 q2).2.2.1 q9).2.2 q12).1 ?_
        refine z_goto (tgt := 47) dX12_turnedX_31 (by decide) ?_
        exact z_ireturn dX12_turnedX_47 rfl rfl ⟨_, rfl, (((h.2 q2).2.2.1 q9).2.2 q12).2⟩
    · refine z_iload_n dX12_turnedX_18 rfl ?_
      refine z_goto (tgt := 47) dX12_turnedX_19 (by decide) ?_
      exact z_ireturn dX12_turnedX_47 rfl rfl ⟨_, rfl, ((h.2 q2).2.2.2 q10)⟩
set_option maxRecDepth 20000 in
theorem V_X12_turnedY {a b c : Int}  {μ : z_Mem} {d : Nat} {K : Int → z_Mem → Prop} (h : (c ≤ 3 → ((0 : Int) ≤ c) ∧ ((¬ c % 4 = 0 → ((0 : Int) ≤ c) ∧ ((¬ c % 4 = 1 → ((0 : Int) ≤ c) ∧ ((¬ c % 4 = 2 → z_I (-a) ∧ (K (-a) μ)) ∧ (c % 4 = 2 → z_I (-b) ∧ (K (-b) μ)))) ∧ (c % 4 = 1 → K a μ))) ∧ (c % 4 = 0 → K b μ))) ∧ (3 < c → z_I (-a) ∧ (((0 : Int) ≤ c) ∧ ((¬ c % 4 = 0 → ((0 : Int) ≤ c) ∧ ((¬ c % 4 = 1 → ((0 : Int) ≤ c) ∧ ((¬ c % 4 = 2 → z_I (-(-a)) ∧ (K (-(-a)) μ)) ∧ (c % 4 = 2 → z_I (-b) ∧ (K (-b) μ)))) ∧ (c % 4 = 1 → K (-a) μ))) ∧ (c % 4 = 0 → K b μ))))) : z_ci m_X12_turnedY [(0, a), (0, b), (0, c)] μ d K := by
  show z_R m_X12_turnedY 0 [some (0, a), some (0, b), some (0, c), none] [] z_n μ d _
  refine z_iload_n dX12_turnedY_0 rfl ?_
  refine z_iconst dX12_turnedY_1 ⟨by decide, by decide⟩ ?_
  refine z_icmp_le (tgt := 10) dX12_turnedY_2 (by decide) (fun q1 => ?_) (fun q2 => ?_)
  · refine z_iload_n dX12_turnedY_10 rfl ?_
    refine n_istore_n (lo' := [some (0, a), some (0, b), some (0, c), some (0, a)]) dX12_turnedY_11 ⟨Nat.le_of_ble_eq_true rfl, Nat.le_of_ble_eq_true rfl⟩ rfl ?_
    refine z_iload_n dX12_turnedY_12 rfl ?_
    refine z_iconst dX12_turnedY_13 ⟨by decide, by decide⟩ ?_
    refine z_irem dX12_turnedY_14 (h.1 q1).1 (by decide) ?_
    refine z_if_ne (tgt := 22) dX12_turnedY_15 (by decide) (fun q3 => ?_) (fun q4 => ?_)
    · refine z_iload_n dX12_turnedY_22 rfl ?_
      refine z_iconst dX12_turnedY_23 ⟨by decide, by decide⟩ ?_
      refine z_irem dX12_turnedY_24 ((h.1 q1).2.1 q3).1 (by decide) ?_
      refine z_iconst dX12_turnedY_25 ⟨by decide, by decide⟩ ?_
      refine z_icmp_ne (tgt := 33) dX12_turnedY_26 (by decide) (fun q5 => ?_) (fun q6 => ?_)
      · refine z_iload_n dX12_turnedY_33 rfl ?_
        refine z_iconst dX12_turnedY_34 ⟨by decide, by decide⟩ ?_
        refine z_irem dX12_turnedY_35 (((h.1 q1).2.1 q3).2.1 q5).1 (by decide) ?_
        refine z_iconst dX12_turnedY_36 ⟨by decide, by decide⟩ ?_
        refine z_icmp_ne (tgt := 45) dX12_turnedY_37 (by decide) (fun q7 => ?_) (fun q8 => ?_)
        · refine z_iload_n dX12_turnedY_45 rfl ?_
          refine z_ineg dX12_turnedY_46 ((((h.1 q1).2.1 q3).2.1 q5).2.1 q7).1 ?_
          exact z_ireturn dX12_turnedY_47 rfl rfl ⟨_, rfl, ((((h.1 q1).2.1 q3).2.1 q5).2.1 q7).2⟩
        · refine z_iload_n dX12_turnedY_40 rfl ?_
          refine z_ineg dX12_turnedY_41 ((((h.1 q1).2.1 q3).2.1 q5).2.2 q8).1 ?_
          refine z_goto (tgt := 47) dX12_turnedY_42 (by decide) ?_
          exact z_ireturn dX12_turnedY_47 rfl rfl ⟨_, rfl, ((((h.1 q1).2.1 q3).2.1 q5).2.2 q8).2⟩
      · refine z_iload_n dX12_turnedY_29 rfl ?_
        refine z_goto (tgt := 47) dX12_turnedY_30 (by decide) ?_
        exact z_ireturn dX12_turnedY_47 rfl rfl ⟨_, rfl, (((h.1 q1).2.1 q3).2.2 q6)⟩
    · refine z_iload_n dX12_turnedY_18 rfl ?_
      refine z_goto (tgt := 47) dX12_turnedY_19 (by decide) ?_
      exact z_ireturn dX12_turnedY_47 rfl rfl ⟨_, rfl, ((h.1 q1).2.2 q4)⟩
  · refine z_iload_n dX12_turnedY_5 rfl ?_
    refine z_ineg dX12_turnedY_6 (h.2 q2).1 ?_
    refine z_goto (tgt := 11) dX12_turnedY_7 (by decide) ?_
    refine n_istore_n (lo' := [some (0, a), some (0, b), some (0, c), some (0, -a)]) dX12_turnedY_11 ⟨Nat.le_of_ble_eq_true rfl, Nat.le_of_ble_eq_true rfl⟩ rfl ?_
    refine z_iload_n dX12_turnedY_12 rfl ?_
    refine z_iconst dX12_turnedY_13 ⟨by decide, by decide⟩ ?_
    refine z_irem dX12_turnedY_14 (h.2 q2).2.1 (by decide) ?_
    refine z_if_ne (tgt := 22) dX12_turnedY_15 (by decide) (fun q9 => ?_) (fun q10 => ?_)
    · refine z_iload_n dX12_turnedY_22 rfl ?_
      refine z_iconst dX12_turnedY_23 ⟨by decide, by decide⟩ ?_
      refine z_irem dX12_turnedY_24 ((h.2 q2).2.2.1 q9).1 (by decide) ?_
      refine z_iconst dX12_turnedY_25 ⟨by decide, by decide⟩ ?_
      refine z_icmp_ne (tgt := 33) dX12_turnedY_26 (by decide) (fun q11 => ?_) (fun q12 => ?_)
      · refine z_iload_n dX12_turnedY_33 rfl ?_
        refine z_iconst dX12_turnedY_34 ⟨by decide, by decide⟩ ?_
        refine z_irem dX12_turnedY_35 (((h.2 q2).2.2.1 q9).2.1 q11).1 (by decide) ?_
        refine z_iconst dX12_turnedY_36 ⟨by decide, by decide⟩ ?_
        refine z_icmp_ne (tgt := 45) dX12_turnedY_37 (by decide) (fun q13 => ?_) (fun q14 => ?_)
        · refine z_iload_n dX12_turnedY_45 rfl ?_
          refine z_ineg dX12_turnedY_46 ((((h.2 q2).2.2.1 q9).2.1 q11).2.1 q13).1 ?_
          exact z_ireturn dX12_turnedY_47 rfl rfl ⟨_, rfl, ((((h.2 q2).2.2.1 q9).2.1 q11).2.1 q13).2⟩
        · refine z_iload_n dX12_turnedY_40 rfl ?_
          refine z_ineg dX12_turnedY_41 ((((h.2 q2).2.2.1 q9).2.1 q11).2.2 q14).1 ?_
          refine z_goto (tgt := 47) dX12_turnedY_42 (by decide) ?_
          exact z_ireturn dX12_turnedY_47 rfl rfl ⟨_, rfl, ((((h.2 q2).2.2.1 q9).2.1 q11).2.2 q14).2⟩
      · refine z_iload_n dX12_turnedY_29 rfl ?_
        refine z_goto (tgt := 47) dX12_turnedY_30 (by decide) ?_
        exact z_ireturn dX12_turnedY_47 rfl rfl ⟨_, rfl, (((h.2 q2).2.2.1 q9).2.2 q12)⟩
    · refine z_iload_n dX12_turnedY_18 rfl ?_
      refine z_goto (tgt := 47) dX12_turnedY_19 (by decide) ?_
      exact z_ireturn dX12_turnedY_47 rfl rfl ⟨_, rfl, ((h.2 q2).2.2.2 q10)⟩
set_option maxRecDepth 20000 in
theorem V_X12_laysCells {a : Int}  {μ : z_Mem} {d : Nat} {K : z_Mem → Prop} (h : z_rn m_X12_laysCells 11 [some (2, 113), some (0, a), some (0, 1000), some (0, 1000), some (0, 0)] μ (d + 1) K) : z_cn m_X12_laysCells [(2, 113), (0, a)] μ (d + 1) K := by
  show z_R m_X12_laysCells 0 [some (2, 113), some (0, a), none, none, none] [] z_n μ (d + 1) _
  refine z_sipush dX12_laysCells_0 (by decide) ?_
  refine n_istore_n (lo' := [some (2, 113), some (0, a), some (0, 1000), none, none]) dX12_laysCells_3 ⟨Nat.le_of_ble_eq_true rfl, Nat.le_of_ble_eq_true rfl⟩ rfl ?_
  refine z_sipush dX12_laysCells_4 (by decide) ?_
  refine n_istore_n (lo' := [some (2, 113), some (0, a), some (0, 1000), some (0, 1000), none]) dX12_laysCells_7 ⟨Nat.le_of_ble_eq_true rfl, Nat.le_of_ble_eq_true rfl⟩ rfl ?_
  refine z_iconst dX12_laysCells_8 ⟨by decide, by decide⟩ ?_
  refine n_istore (lo' := [some (2, 113), some (0, a), some (0, 1000), some (0, 1000), some (0, 0)]) dX12_laysCells_9 ⟨Nat.le_of_ble_eq_true rfl, Nat.le_of_ble_eq_true rfl⟩ rfl ?_
  refine z_drop [some (2, 113), some (0, a), some (0, 1000), some (0, 1000), some (0, 0)] ⟨rfl, rfl, rfl, rfl, rfl, trivial⟩ ?_
  exact h
set_option maxRecDepth 20000 in
theorem V_X12_laysCells_11 {v1 v2 v3 v4 : Int}  {μ : z_Mem} {d : Nat} {K : z_Mem → Prop} (h : (μ 113 21 ≤ v4 → z_rn m_X12_laysCells 75 [some (2, 113), some (0, v1), some (0, v2), some (0, v3), some (0, 0)] μ (d + 1) K) ∧ (v4 < μ 113 21 → ((0 : Int) ≤ v4 ∧ v4 < 30) ∧ (((0 : Int) ≤ v4 ∧ v4 < 30) ∧ (z_ci m_X12_turnedX [(0, μ 135 v4), (0, μ 136 v4), (0, v1)] μ d (fun x5 m3 => ((0 : Int) ≤ v4 ∧ v4 < 30) ∧ (((0 : Int) ≤ v4 ∧ v4 < 30) ∧ (z_ci m_X12_turnedY [(0, m3 135 v4), (0, m3 136 v4), (0, v1)] m3 d (fun x8 m6 => z_I (v4 + 1) ∧ (z_rn m_X12_laysCells 11 [some (2, 113), some (0, v1), some (0, min v2 x5), some (0, min v3 x8), some (0, v4 + 1)] m6 (d + 1) K))))))))) : z_rn m_X12_laysCells 11 [some (2, 113), some (0, v1), some (0, v2), some (0, v3), some (0, v4)] μ (d + 1) K := by
  show z_R m_X12_laysCells 11 [some (2, 113), some (0, v1), some (0, v2), some (0, v3), some (0, v4)] [] z_n μ (d + 1) _
  refine z_iload dX12_laysCells_11 rfl ?_
  refine z_aload_n dX12_laysCells_13 rfl ?_
  refine n_getf (ji := 21) (t := 0) dX12_laysCells_14 zf_X12_205 k_113 rfl (by decide) rfl ?_
  refine z_icmp_ge (tgt := 72) dX12_laysCells_17 (by decide) (fun q1 => ?_) (fun q2 => ?_)
  · refine z_iconst dX12_laysCells_72 ⟨by decide, by decide⟩ ?_
    refine n_istore (lo' := [some (2, 113), some (0, v1), some (0, v2), some (0, v3), some (0, 0)]) dX12_laysCells_73 ⟨Nat.le_of_ble_eq_true rfl, Nat.le_of_ble_eq_true rfl⟩ rfl ?_
    refine z_drop [some (2, 113), some (0, v1), some (0, v2), some (0, v3), some (0, 0)] ⟨rfl, rfl, rfl, rfl, rfl, trivial⟩ ?_
    exact (h.1 q1)
  · refine z_iload_n dX12_laysCells_20 rfl ?_
    refine z_aload_n dX12_laysCells_21 rfl ?_
    refine n_getp (ji := 29) dX12_laysCells_22 zf_X12_75 k_113 rfl (by decide) rfl p_113_29 ?_
    refine z_iload dX12_laysCells_25 rfl ?_
    refine n_iald dX12_laysCells_27 k_135 (h.2 q2).1 ?_
    refine z_aload_n dX12_laysCells_28 rfl ?_
    refine n_getp (ji := 30) dX12_laysCells_29 zf_X12_78 k_113 rfl (by decide) rfl p_113_30 ?_
    refine z_iload dX12_laysCells_32 rfl ?_
    refine n_iald dX12_laysCells_34 k_136 (h.2 q2).2.1 ?_
    refine z_iload_n dX12_laysCells_35 rfl ?_
    refine n_sI (as := [(0, μ 135 v4), (0, μ 136 v4), (0, v1)]) (rest := [(0, v2)]) dX12_laysCells_36 zm_X12_turnedX zs_X12_404 rfl rfl (Nat.le_of_ble_eq_true rfl) (Nat.le_of_ble_eq_true rfl) (h.2 q2).2.2 (fun x5 m3 h4 => ?_)
    refine z_mmin dX12_laysCells_39 zq_1406 zq_592 zq_133 zq_593 (Nat.le_of_ble_eq_true rfl) ?_
    refine n_istore_n (lo' := [some (2, 113), some (0, v1), some (0, min v2 x5), some (0, v3), some (0, v4)]) dX12_laysCells_42 ⟨Nat.le_of_ble_eq_true rfl, Nat.le_of_ble_eq_true rfl⟩ rfl ?_
    refine z_iload_n dX12_laysCells_43 rfl ?_
    refine z_aload_n dX12_laysCells_44 rfl ?_
    refine n_getp (ji := 29) dX12_laysCells_45 zf_X12_75 k_113 rfl (by decide) rfl p_113_29 ?_
    refine z_iload dX12_laysCells_48 rfl ?_
    refine n_iald dX12_laysCells_50 k_135 h4.1 ?_
    refine z_aload_n dX12_laysCells_51 rfl ?_
    refine n_getp (ji := 30) dX12_laysCells_52 zf_X12_78 k_113 rfl (by decide) rfl p_113_30 ?_
    refine z_iload dX12_laysCells_55 rfl ?_
    refine n_iald dX12_laysCells_57 k_136 h4.2.1 ?_
    refine z_iload_n dX12_laysCells_58 rfl ?_
    refine n_sI (as := [(0, m3 135 v4), (0, m3 136 v4), (0, v1)]) (rest := [(0, v3)]) dX12_laysCells_59 zm_X12_turnedY zs_X12_407 rfl rfl (Nat.le_of_ble_eq_true rfl) (Nat.le_of_ble_eq_true rfl) h4.2.2 (fun x8 m6 h7 => ?_)
    refine z_mmin dX12_laysCells_62 zq_1406 zq_592 zq_133 zq_593 (Nat.le_of_ble_eq_true rfl) ?_
    refine n_istore_n (lo' := [some (2, 113), some (0, v1), some (0, min v2 x5), some (0, min v3 x8), some (0, v4)]) dX12_laysCells_65 ⟨Nat.le_of_ble_eq_true rfl, Nat.le_of_ble_eq_true rfl⟩ rfl ?_
    refine n_iinc (lo' := [some (2, 113), some (0, v1), some (0, min v2 x5), some (0, min v3 x8), some (0, v4 + 1)]) dX12_laysCells_66 rfl (by decide) h7.1 rfl ?_
    refine z_goto (tgt := 11) dX12_laysCells_69 (by decide) ?_
    refine z_drop [some (2, 113), some (0, v1), some (0, min v2 x5), some (0, min v3 x8), some (0, v4 + 1)] ⟨rfl, rfl, rfl, rfl, rfl, trivial⟩ ?_
    exact h7.2
set_option maxRecDepth 20000 in
theorem V_X12_laysCells_75 {v1 v2 v3 v4 : Int}  {μ : z_Mem} {d : Nat} {K : z_Mem → Prop} (h : (μ 113 21 ≤ v4 → z_cn m_X12_sorts [(2, 113), (0, μ 113 21)] μ d (fun m3 => K m3)) ∧ (v4 < μ 113 21 → ((0 : Int) ≤ v4 ∧ v4 < 30) ∧ (((0 : Int) ≤ v4 ∧ v4 < 30) ∧ (z_ci m_X12_turnedY [(0, μ 135 v4), (0, μ 136 v4), (0, v1)] μ d (fun x7 m5 => z_I (x7 - v3) ∧ (z_I (64 * (x7 - v3)) ∧ (((0 : Int) ≤ v4 ∧ v4 < 30) ∧ (((0 : Int) ≤ v4 ∧ v4 < 30) ∧ (z_ci m_X12_turnedX [(0, m5 135 v4), (0, m5 136 v4), (0, v1)] m5 d (fun x10 m8 => z_I ((64 * (x7 - v3)) + x10) ∧ (z_I (((64 * (x7 - v3)) + x10) - v2) ∧ (((0 : Int) ≤ v4 ∧ v4 < 30) ∧ (z_I (v4 + 1) ∧ (z_rn m_X12_laysCells 75 [some (2, 113), some (0, v1), some (0, v2), some (0, v3), some (0, v4 + 1)] (z_st m8 145 v4 (((64 * (x7 - v3)) + x10) - v2)) (d + 1) K)))))))))))))) : z_rn m_X12_laysCells 75 [some (2, 113), some (0, v1), some (0, v2), some (0, v3), some (0, v4)] μ (d + 1) K := by
  show z_R m_X12_laysCells 75 [some (2, 113), some (0, v1), some (0, v2), some (0, v3), some (0, v4)] [] z_n μ (d + 1) _
  refine z_iload dX12_laysCells_75 rfl ?_
  refine z_aload_n dX12_laysCells_77 rfl ?_
  refine n_getf (ji := 21) (t := 0) dX12_laysCells_78 zf_X12_205 k_113 rfl (by decide) rfl ?_
  refine z_icmp_ge (tgt := 141) dX12_laysCells_81 (by decide) (fun q1 => ?_) (fun q2 => ?_)
  · refine z_aload_n dX12_laysCells_141 rfl ?_
    refine z_aload_n dX12_laysCells_142 rfl ?_
    refine n_getf (ji := 21) (t := 0) dX12_laysCells_143 zf_X12_205 k_113 rfl (by decide) rfl ?_
    refine n_vN (as := [(0, μ 113 21)]) (rest := []) dX12_laysCells_146 zm_X12_sorts zs_X12_410 k_113 (by decide) rfl rfl (Nat.le_of_ble_eq_true rfl) (Nat.le_of_ble_eq_true rfl) (h.1 q1) (fun m3 h4 => ?_)
    exact z_return dX12_laysCells_149 rfl rfl ⟨rfl, h4⟩
  · refine z_aload_n dX12_laysCells_84 rfl ?_
    refine n_getp (ji := 47) dX12_laysCells_85 zf_X12_105 k_113 rfl (by decide) rfl p_113_47 ?_
    refine z_iload dX12_laysCells_88 rfl ?_
    refine z_bipush dX12_laysCells_90 (by decide) ?_
    refine z_aload_n dX12_laysCells_92 rfl ?_
    refine n_getp (ji := 29) dX12_laysCells_93 zf_X12_75 k_113 rfl (by decide) rfl p_113_29 ?_
    refine z_iload dX12_laysCells_96 rfl ?_
    refine n_iald dX12_laysCells_98 k_135 (h.2 q2).1 ?_
    refine z_aload_n dX12_laysCells_99 rfl ?_
    refine n_getp (ji := 30) dX12_laysCells_100 zf_X12_78 k_113 rfl (by decide) rfl p_113_30 ?_
    refine z_iload dX12_laysCells_103 rfl ?_
    refine n_iald dX12_laysCells_105 k_136 (h.2 q2).2.1 ?_
    refine z_iload_n dX12_laysCells_106 rfl ?_
    refine n_sI (as := [(0, μ 135 v4), (0, μ 136 v4), (0, v1)]) (rest := [(0, 64), (0, v4), (2, 145)]) dX12_laysCells_107 zm_X12_turnedY zs_X12_407 rfl rfl (Nat.le_of_ble_eq_true rfl) (Nat.le_of_ble_eq_true rfl) (h.2 q2).2.2 (fun x7 m5 h6 => ?_)
    refine z_iload_n dX12_laysCells_110 rfl ?_
    refine z_isub dX12_laysCells_111 h6.1 ?_
    refine z_imul dX12_laysCells_112 h6.2.1 ?_
    refine z_aload_n dX12_laysCells_113 rfl ?_
    refine n_getp (ji := 29) dX12_laysCells_114 zf_X12_75 k_113 rfl (by decide) rfl p_113_29 ?_
    refine z_iload dX12_laysCells_117 rfl ?_
    refine n_iald dX12_laysCells_119 k_135 h6.2.2.1 ?_
    refine z_aload_n dX12_laysCells_120 rfl ?_
    refine n_getp (ji := 30) dX12_laysCells_121 zf_X12_78 k_113 rfl (by decide) rfl p_113_30 ?_
    refine z_iload dX12_laysCells_124 rfl ?_
    refine n_iald dX12_laysCells_126 k_136 h6.2.2.2.1 ?_
    refine z_iload_n dX12_laysCells_127 rfl ?_
    refine n_sI (as := [(0, m5 135 v4), (0, m5 136 v4), (0, v1)]) (rest := [(0, 64 * (x7 - v3)), (0, v4), (2, 145)]) dX12_laysCells_128 zm_X12_turnedX zs_X12_404 rfl rfl (Nat.le_of_ble_eq_true rfl) (Nat.le_of_ble_eq_true rfl) h6.2.2.2.2 (fun x10 m8 h9 => ?_)
    refine z_iadd dX12_laysCells_131 h9.1 ?_
    refine z_iload_n dX12_laysCells_132 rfl ?_
    refine z_isub dX12_laysCells_133 h9.2.1 ?_
    refine n_iast dX12_laysCells_134 k_145 h9.2.2.1 ?_
    refine n_iinc (lo' := [some (2, 113), some (0, v1), some (0, v2), some (0, v3), some (0, v4 + 1)]) dX12_laysCells_135 rfl (by decide) h9.2.2.2.1 rfl ?_
    refine z_goto (tgt := 75) dX12_laysCells_138 (by decide) ?_
    refine z_drop [some (2, 113), some (0, v1), some (0, v2), some (0, v3), some (0, v4 + 1)] ⟨rfl, rfl, rfl, rfl, rfl, trivial⟩ ?_
    exact h9.2.2.2.2
set_option maxRecDepth 20000 in
theorem V_X12_isLess  {μ : z_Mem} {d : Nat} {K : Int → z_Mem → Prop} (h : z_ri m_X12_isLess 2 [some (2, 113), some (0, 0)] μ d K) : z_ci m_X12_isLess [(2, 113)] μ d K := by
  show z_R m_X12_isLess 0 [some (2, 113), none] [] z_n μ d _
  refine z_iconst dX12_isLess_0 ⟨by decide, by decide⟩ ?_
  refine n_istore_n (lo' := [some (2, 113), some (0, 0)]) dX12_isLess_1 ⟨Nat.le_of_ble_eq_true rfl, Nat.le_of_ble_eq_true rfl⟩ rfl ?_
  refine z_drop [some (2, 113), some (0, 0)] ⟨rfl, rfl, trivial⟩ ?_
  exact h
set_option maxRecDepth 20000 in
theorem V_X12_isLess_2 {v1 : Int}  {μ : z_Mem} {d : Nat} {K : Int → z_Mem → Prop} (h : (μ 113 21 ≤ v1 → K 0 μ) ∧ (v1 < μ 113 21 → ((0 : Int) ≤ v1 ∧ v1 < 30) ∧ (((0 : Int) ≤ v1 ∧ v1 < 30) ∧ ((μ 145 v1 = μ 146 v1 → z_I (v1 + 1) ∧ (z_ri m_X12_isLess 2 [some (2, 113), some (0, v1 + 1)] μ d K)) ∧ (¬ μ 145 v1 = μ 146 v1 → ((0 : Int) ≤ v1 ∧ v1 < 30) ∧ (((0 : Int) ≤ v1 ∧ v1 < 30) ∧ ((μ 146 v1 ≤ μ 145 v1 → K 0 μ) ∧ (μ 145 v1 < μ 146 v1 → K 1 μ)))))))) : z_ri m_X12_isLess 2 [some (2, 113), some (0, v1)] μ d K := by
  show z_R m_X12_isLess 2 [some (2, 113), some (0, v1)] [] z_n μ d _
  refine z_iload_n dX12_isLess_2 rfl ?_
  refine z_aload_n dX12_isLess_3 rfl ?_
  refine n_getf (ji := 21) (t := 0) dX12_isLess_4 zf_X12_205 k_113 rfl (by decide) rfl ?_
  refine z_icmp_ge (tgt := 52) dX12_isLess_7 (by decide) (fun q1 => ?_) (fun q2 => ?_)
  · refine z_iconst dX12_isLess_52 ⟨by decide, by decide⟩ ?_
    exact z_zreturn dX12_isLess_53 rfl rfl (by decide) ⟨_, rfl, (h.1 q1)⟩
  · refine z_aload_n dX12_isLess_10 rfl ?_
    refine n_getp (ji := 47) dX12_isLess_11 zf_X12_105 k_113 rfl (by decide) rfl p_113_47 ?_
    refine z_iload_n dX12_isLess_14 rfl ?_
    refine n_iald dX12_isLess_15 k_145 (h.2 q2).1 ?_
    refine z_aload_n dX12_isLess_16 rfl ?_
    refine n_getp (ji := 48) dX12_isLess_17 zf_X12_108 k_113 rfl (by decide) rfl p_113_48 ?_
    refine z_iload_n dX12_isLess_20 rfl ?_
    refine n_iald dX12_isLess_21 k_146 (h.2 q2).2.1 ?_
    refine z_icmp_eq (tgt := 46) dX12_isLess_22 (by decide) (fun q3 => ?_) (fun q4 => ?_)
    · refine n_iinc (lo' := [some (2, 113), some (0, v1 + 1)]) dX12_isLess_46 rfl (by decide) ((h.2 q2).2.2.1 q3).1 rfl ?_
      refine z_goto (tgt := 2) dX12_isLess_49 (by decide) ?_
      refine z_drop [some (2, 113), some (0, v1 + 1)] ⟨rfl, rfl, trivial⟩ ?_
      exact ((h.2 q2).2.2.1 q3).2
    · refine z_aload_n dX12_isLess_25 rfl ?_
      refine n_getp (ji := 47) dX12_isLess_26 zf_X12_105 k_113 rfl (by decide) rfl p_113_47 ?_
      refine z_iload_n dX12_isLess_29 rfl ?_
      refine n_iald dX12_isLess_30 k_145 ((h.2 q2).2.2.2 q4).1 ?_
      refine z_aload_n dX12_isLess_31 rfl ?_
      refine n_getp (ji := 48) dX12_isLess_32 zf_X12_108 k_113 rfl (by decide) rfl p_113_48 ?_
      refine z_iload_n dX12_isLess_35 rfl ?_
      refine n_iald dX12_isLess_36 k_146 ((h.2 q2).2.2.2 q4).2.1 ?_
      refine z_icmp_ge (tgt := 44) dX12_isLess_37 (by decide) (fun q5 => ?_) (fun q6 => ?_)
      · refine z_iconst dX12_isLess_44 ⟨by decide, by decide⟩ ?_
        exact z_zreturn dX12_isLess_45 rfl rfl (by decide) ⟨_, rfl, (((h.2 q2).2.2.2 q4).2.2.1 q5)⟩
      · refine z_iconst dX12_isLess_40 ⟨by decide, by decide⟩ ?_
        refine z_goto (tgt := 45) dX12_isLess_41 (by decide) ?_
        exact z_zreturn dX12_isLess_45 rfl rfl (by decide) ⟨_, rfl, (((h.2 q2).2.2.2 q4).2.2.2 q6)⟩
set_option maxRecDepth 20000 in
theorem V_X12_laysOutline  {μ : z_Mem} {d : Nat} {K : Int → z_Mem → Prop} (h : z_ci m_X12_isWhole [(2, 113)] μ d (fun x3 m1 => (x3 = 0 → K 0 m1) ∧ (¬ x3 = 0 → z_ci m_X12_overlaps [(2, 113)] m1 d (fun x8 m6 => (x8 ≤ 0 → z_ri m_X12_laysOutline 18 [some (2, 113), some (0, 0), none] m6 (d + 1) K) ∧ (0 < x8 → K 0 m6))))) : z_ci m_X12_laysOutline [(2, 113)] μ (d + 1) K := by
  show z_R m_X12_laysOutline 0 [some (2, 113), none, none] [] z_n μ (d + 1) _
  refine z_aload_n dX12_laysOutline_0 rfl ?_
  refine n_vI (as := []) (rest := []) dX12_laysOutline_1 zm_X12_isWhole zs_X12_325 k_113 (by decide) rfl rfl (Nat.le_of_ble_eq_true rfl) (Nat.le_of_ble_eq_true rfl) h (fun x3 m1 h2 => ?_)
  refine z_if_eq (tgt := 14) dX12_laysOutline_4 (by decide) (fun q4 => ?_) (fun q5 => ?_)
  · refine z_iconst dX12_laysOutline_14 ⟨by decide, by decide⟩ ?_
    exact z_zreturn dX12_laysOutline_15 rfl rfl (by decide) ⟨_, rfl, (h2.1 q4)⟩
  · refine z_aload_n dX12_laysOutline_7 rfl ?_
    refine n_vI (as := []) (rest := []) dX12_laysOutline_8 zm_X12_overlaps zs_X12_310 k_113 (by decide) rfl rfl (Nat.le_of_ble_eq_true rfl) (Nat.le_of_ble_eq_true rfl) (h2.2 q5) (fun x8 m6 h7 => ?_)
    refine z_if_le (tgt := 16) dX12_laysOutline_11 (by decide) (fun q9 => ?_) (fun q10 => ?_)
    · refine z_iconst dX12_laysOutline_16 ⟨by decide, by decide⟩ ?_
      refine n_istore_n (lo' := [some (2, 113), some (0, 0), none]) dX12_laysOutline_17 ⟨Nat.le_of_ble_eq_true rfl, Nat.le_of_ble_eq_true rfl⟩ rfl ?_
      refine z_drop [some (2, 113), some (0, 0), none] ⟨rfl, rfl, trivial⟩ ?_
      exact (h7.1 q9)
    · refine z_iconst dX12_laysOutline_14 ⟨by decide, by decide⟩ ?_
      exact z_zreturn dX12_laysOutline_15 rfl rfl (by decide) ⟨_, rfl, (h7.2 q10)⟩
set_option maxRecDepth 20000 in
theorem V_X12_laysOutline_18 {v1 : Int}  {μ : z_Mem} {d : Nat} {K : Int → z_Mem → Prop} (h : (8 ≤ v1 → K 1 μ) ∧ (v1 < 8 → z_cn m_X12_laysCells [(2, 113), (0, v1)] μ d (fun m3 => (v1 = 0 → z_ri m_X12_laysOutline 42 [some (2, 113), some (0, v1), some (0, 0)] m3 (d + 1) K) ∧ (¬ v1 = 0 → z_ci m_X12_isLess [(2, 113)] m3 d (fun x9 m7 => (x9 = 0 → z_I (v1 + 1) ∧ (z_ri m_X12_laysOutline 18 [some (2, 113), some (0, v1 + 1), none] m7 (d + 1) K)) ∧ (¬ x9 = 0 → z_ri m_X12_laysOutline 42 [some (2, 113), some (0, v1), some (0, 0)] m7 (d + 1) K)))))) : z_ri m_X12_laysOutline 18 [some (2, 113), some (0, v1), none] μ (d + 1) K := by
  show z_R m_X12_laysOutline 18 [some (2, 113), some (0, v1), none] [] z_n μ (d + 1) _
  refine z_iload_n dX12_laysOutline_18 rfl ?_
  refine z_bipush dX12_laysOutline_19 (by decide) ?_
  refine z_icmp_ge (tgt := 74) dX12_laysOutline_21 (by decide) (fun q1 => ?_) (fun q2 => ?_)
  · refine z_iconst dX12_laysOutline_74 ⟨by decide, by decide⟩ ?_
    exact z_zreturn dX12_laysOutline_75 rfl rfl (by decide) ⟨_, rfl, (h.1 q1)⟩
  · refine z_aload_n dX12_laysOutline_24 rfl ?_
    refine z_iload_n dX12_laysOutline_25 rfl ?_
    refine n_vN (as := [(0, v1)]) (rest := []) dX12_laysOutline_26 zm_X12_laysCells zs_X12_413 k_113 (by decide) rfl rfl (Nat.le_of_ble_eq_true rfl) (Nat.le_of_ble_eq_true rfl) (h.2 q2) (fun m3 h4 => ?_)
    refine z_iload_n dX12_laysOutline_29 rfl ?_
    refine z_if_eq (tgt := 40) dX12_laysOutline_30 (by decide) (fun q5 => ?_) (fun q6 => ?_)
    · refine z_iconst dX12_laysOutline_40 ⟨by decide, by decide⟩ ?_
      refine n_istore_n (lo' := [some (2, 113), some (0, v1), some (0, 0)]) dX12_laysOutline_41 ⟨Nat.le_of_ble_eq_true rfl, Nat.le_of_ble_eq_true rfl⟩ rfl ?_
      refine z_drop [some (2, 113), some (0, v1), some (0, 0)] ⟨rfl, rfl, rfl, trivial⟩ ?_
      exact (h4.1 q5)
    · refine z_aload_n dX12_laysOutline_33 rfl ?_
      refine n_vI (as := []) (rest := []) dX12_laysOutline_34 zm_X12_isLess zs_X12_416 k_113 (by decide) rfl rfl (Nat.le_of_ble_eq_true rfl) (Nat.le_of_ble_eq_true rfl) (h4.2 q6) (fun x9 m7 h8 => ?_)
      refine z_if_eq (tgt := 68) dX12_laysOutline_37 (by decide) (fun q10 => ?_) (fun q11 => ?_)
      · refine n_iinc (lo' := [some (2, 113), some (0, v1 + 1), none]) dX12_laysOutline_68 rfl (by decide) (h8.1 q10).1 rfl ?_
        refine z_goto (tgt := 18) dX12_laysOutline_71 (by decide) ?_
        refine z_drop [some (2, 113), some (0, v1 + 1), none] ⟨rfl, rfl, trivial⟩ ?_
        exact (h8.1 q10).2
      · refine z_iconst dX12_laysOutline_40 ⟨by decide, by decide⟩ ?_
        refine n_istore_n (lo' := [some (2, 113), some (0, v1), some (0, 0)]) dX12_laysOutline_41 ⟨Nat.le_of_ble_eq_true rfl, Nat.le_of_ble_eq_true rfl⟩ rfl ?_
        refine z_drop [some (2, 113), some (0, v1), some (0, 0)] ⟨rfl, rfl, rfl, trivial⟩ ?_
        exact (h8.2 q11)
set_option maxRecDepth 20000 in
theorem V_X12_laysOutline_42 {v1 v2 : Int}  {μ : z_Mem} {d : Nat} {K : Int → z_Mem → Prop} (h : (μ 113 21 ≤ v2 → z_I (v1 + 1) ∧ (z_ri m_X12_laysOutline 18 [some (2, 113), some (0, v1 + 1), none] μ (d + 1) K)) ∧ (v2 < μ 113 21 → ((0 : Int) ≤ v2 ∧ v2 < 30) ∧ (((0 : Int) ≤ v2 ∧ v2 < 30) ∧ (z_I (v2 + 1) ∧ (z_ri m_X12_laysOutline 42 [some (2, 113), some (0, v1), some (0, v2 + 1)] (z_st μ 146 v2 (μ 145 v2)) (d + 1) K))))) : z_ri m_X12_laysOutline 42 [some (2, 113), some (0, v1), some (0, v2)] μ (d + 1) K := by
  show z_R m_X12_laysOutline 42 [some (2, 113), some (0, v1), some (0, v2)] [] z_n μ (d + 1) _
  refine z_iload_n dX12_laysOutline_42 rfl ?_
  refine z_aload_n dX12_laysOutline_43 rfl ?_
  refine n_getf (ji := 21) (t := 0) dX12_laysOutline_44 zf_X12_205 k_113 rfl (by decide) rfl ?_
  refine z_icmp_ge (tgt := 68) dX12_laysOutline_47 (by decide) (fun q1 => ?_) (fun q2 => ?_)
  · refine n_iinc (lo' := [some (2, 113), some (0, v1 + 1), some (0, v2)]) dX12_laysOutline_68 rfl (by decide) (h.1 q1).1 rfl ?_
    refine z_goto (tgt := 18) dX12_laysOutline_71 (by decide) ?_
    refine z_drop [some (2, 113), some (0, v1 + 1), none] ⟨rfl, rfl, trivial⟩ ?_
    exact (h.1 q1).2
  · refine z_aload_n dX12_laysOutline_50 rfl ?_
    refine n_getp (ji := 48) dX12_laysOutline_51 zf_X12_108 k_113 rfl (by decide) rfl p_113_48 ?_
    refine z_iload_n dX12_laysOutline_54 rfl ?_
    refine z_aload_n dX12_laysOutline_55 rfl ?_
    refine n_getp (ji := 47) dX12_laysOutline_56 zf_X12_105 k_113 rfl (by decide) rfl p_113_47 ?_
    refine z_iload_n dX12_laysOutline_59 rfl ?_
    refine n_iald dX12_laysOutline_60 k_145 (h.2 q2).1 ?_
    refine n_iast dX12_laysOutline_61 k_146 (h.2 q2).2.1 ?_
    refine n_iinc (lo' := [some (2, 113), some (0, v1), some (0, v2 + 1)]) dX12_laysOutline_62 rfl (by decide) (h.2 q2).2.2.1 rfl ?_
    refine z_goto (tgt := 42) dX12_laysOutline_65 (by decide) ?_
    refine z_drop [some (2, 113), some (0, v1), some (0, v2 + 1)] ⟨rfl, rfl, rfl, trivial⟩ ?_
    exact (h.2 q2).2.2.2
set_option maxRecDepth 20000 in
theorem V_X12_outline  {μ : z_Mem} {d : Nat} {K : Int → z_Mem → Prop} (h : z_ci m_X12_laysOutline [(2, 113)] μ d (fun x3 m1 => (¬ x3 = 0 → z_rl m_X12_outline 15 [some (2, 113), some (1, 17), none, some (0, 0)] m1 (d + 1) K) ∧ (x3 = 0 → K 0 m1))) : z_cl' m_X12_outline [(2, 113)] μ (d + 1) K := by
  show z_R m_X12_outline 0 [some (2, 113), none, none, none] [] z_n μ (d + 1) _
  refine z_aload_n dX12_outline_0 rfl ?_
  refine n_vI (as := []) (rest := []) dX12_outline_1 zm_X12_laysOutline zs_X12_419 k_113 (by decide) rfl rfl (Nat.le_of_ble_eq_true rfl) (Nat.le_of_ble_eq_true rfl) h (fun x3 m1 h2 => ?_)
  refine z_if_ne (tgt := 9) dX12_outline_4 (by decide) (fun q4 => ?_) (fun q5 => ?_)
  · refine z_ldc2 (n := 17) dX12_outline_9 zc_1773 ⟨by decide, by decide⟩ ?_
    refine n_lstore_n (lo' := [some (2, 113), some (1, 17), none, none]) dX12_outline_12 ⟨Nat.le_of_ble_eq_true rfl, Nat.le_of_ble_eq_true rfl⟩ rfl ?_
    refine z_iconst dX12_outline_13 ⟨by decide, by decide⟩ ?_
    refine n_istore_n (lo' := [some (2, 113), some (1, 17), none, some (0, 0)]) dX12_outline_14 ⟨Nat.le_of_ble_eq_true rfl, Nat.le_of_ble_eq_true rfl⟩ rfl ?_
    refine z_drop [some (2, 113), some (1, 17), none, some (0, 0)] ⟨rfl, rfl, rfl, trivial⟩ ?_
    exact (h2.1 q4)
  · refine z_lconst0 dX12_outline_7 ?_
    exact z_lreturn dX12_outline_8 rfl rfl ⟨_, rfl, (h2.2 q5)⟩
set_option maxRecDepth 20000 in
theorem V_X12_outline_15 {v1 v3 : Int}  {μ : z_Mem} {d : Nat} {K : Int → z_Mem → Prop} (h : (μ 113 21 ≤ v3 → K v1 μ) ∧ (v3 < μ 113 21 → ((0 : Int) ≤ v3 ∧ v3 < 30) ∧ (z_I (v3 + 1) ∧ (z_rl m_X12_outline 15 [some (2, 113), some (1, Int.bmod ((Int.bmod (31 * v1) 18446744073709551616) + (μ 146 v3)) 18446744073709551616), none, some (0, v3 + 1)] μ (d + 1) K)))) : z_rl m_X12_outline 15 [some (2, 113), some (1, v1), none, some (0, v3)] μ (d + 1) K := by
  show z_R m_X12_outline 15 [some (2, 113), some (1, v1), none, some (0, v3)] [] z_n μ (d + 1) _
  refine z_iload_n dX12_outline_15 rfl ?_
  refine z_aload_n dX12_outline_16 rfl ?_
  refine n_getf (ji := 21) (t := 0) dX12_outline_17 zf_X12_205 k_113 rfl (by decide) rfl ?_
  refine z_icmp_ge (tgt := 43) dX12_outline_20 (by decide) (fun q1 => ?_) (fun q2 => ?_)
  · refine z_lload_n dX12_outline_43 rfl ?_
    exact z_lreturn dX12_outline_44 rfl rfl ⟨_, rfl, (h.1 q1)⟩
  · refine z_ldc2 (n := 31) dX12_outline_23 zc_1774 ⟨by decide, by decide⟩ ?_
    refine z_lload_n dX12_outline_26 rfl ?_
    refine z_lmulw dX12_outline_27 ?_
    refine z_aload_n dX12_outline_28 rfl ?_
    refine n_getp (ji := 48) dX12_outline_29 zf_X12_108 k_113 rfl (by decide) rfl p_113_48 ?_
    refine z_iload_n dX12_outline_32 rfl ?_
    refine n_iald dX12_outline_33 k_146 (h.2 q2).1 ?_
    refine z_i2l_ dX12_outline_34 ?_
    refine z_laddw dX12_outline_35 ?_
    refine n_lstore_n (lo' := [some (2, 113), some (1, Int.bmod ((Int.bmod (31 * v1) 18446744073709551616) + (μ 146 v3)) 18446744073709551616), none, some (0, v3)]) dX12_outline_36 ⟨Nat.le_of_ble_eq_true rfl, Nat.le_of_ble_eq_true rfl⟩ rfl ?_
    refine n_iinc (lo' := [some (2, 113), some (1, Int.bmod ((Int.bmod (31 * v1) 18446744073709551616) + (μ 146 v3)) 18446744073709551616), none, some (0, v3 + 1)]) dX12_outline_37 rfl (by decide) (h.2 q2).2.1 rfl ?_
    refine z_goto (tgt := 15) dX12_outline_40 (by decide) ?_
    refine z_drop [some (2, 113), some (1, Int.bmod ((Int.bmod (31 * v1) 18446744073709551616) + (μ 146 v3)) 18446744073709551616), none, some (0, v3 + 1)] ⟨rfl, rfl, rfl, trivial⟩ ?_
    exact (h.2 q2).2.2
set_option maxRecDepth 20000 in
theorem V_X12_alike {a : Int}  {μ : z_Mem} {d : Nat} {K : Int → z_Mem → Prop} (h : z_ci m_X12_in [(1, a), (1, 0), (1, 1)] μ d (fun x3 m1 => (x3 = 0 → K (-1) m1) ∧ (¬ x3 = 0 → ((0 : Int) ≤ a ∧ a < 2) ∧ ((¬ m1 119 a = 0 → z_ci m_X12_laysOutline [(2, 113)] m1 d (fun x10 m8 => z_ri m_X12_alike 34 [some (2, 113), some (0, a), some (0, x10), some (0, m8 113 21), some (0, 0), none, none] m8 (d + 1) K)) ∧ (m1 119 a = 0 → K (-1) m1))))) : z_ci m_X12_alike [(2, 113), (0, a)] μ (d + 1) K := by
  show z_R m_X12_alike 0 [some (2, 113), some (0, a), none, none, none, none, none] [] z_n μ (d + 1) _
  refine z_iload_n dX12_alike_0 rfl ?_
  refine z_i2l_ dX12_alike_1 ?_
  refine z_lconst0 dX12_alike_2 ?_
  refine z_lconst1 dX12_alike_3 ?_
  refine n_sI (as := [(1, a), (1, 0), (1, 1)]) (rest := []) dX12_alike_4 zm_X12_in zs_X12_143 rfl rfl (Nat.le_of_ble_eq_true rfl) (Nat.le_of_ble_eq_true rfl) h (fun x3 m1 h2 => ?_)
  refine z_if_eq (tgt := 19) dX12_alike_7 (by decide) (fun q4 => ?_) (fun q5 => ?_)
  · refine z_iconst dX12_alike_19 ⟨by decide, by decide⟩ ?_
    exact z_ireturn dX12_alike_20 rfl rfl ⟨_, rfl, (h2.1 q4)⟩
  · refine z_aload_n dX12_alike_10 rfl ?_
    refine n_getp (ji := 5) dX12_alike_11 zf_X12_25 k_113 rfl (by decide) rfl p_113_5 ?_
    refine z_iload_n dX12_alike_14 rfl ?_
    refine n_zald dX12_alike_15 k_119 (h2.2 q5).1 ?_
    refine z_if_ne (tgt := 21) dX12_alike_16 (by decide) (fun q6 => ?_) (fun q7 => ?_)
    · refine z_aload_n dX12_alike_21 rfl ?_
      refine n_vI (as := []) (rest := []) dX12_alike_22 zm_X12_laysOutline zs_X12_419 k_113 (by decide) rfl rfl (Nat.le_of_ble_eq_true rfl) (Nat.le_of_ble_eq_true rfl) ((h2.2 q5).2.1 q6) (fun x10 m8 h9 => ?_)
      refine n_istore_n (lo' := [some (2, 113), some (0, a), some (0, x10), none, none, none, none]) dX12_alike_25 ⟨Nat.le_of_ble_eq_true rfl, Nat.le_of_ble_eq_true rfl⟩ rfl ?_
      refine z_aload_n dX12_alike_26 rfl ?_
      refine n_getf (ji := 21) (t := 0) dX12_alike_27 zf_X12_205 k_113 rfl (by decide) rfl ?_
      refine n_istore_n (lo' := [some (2, 113), some (0, a), some (0, x10), some (0, m8 113 21), none, none, none]) dX12_alike_30 ⟨Nat.le_of_ble_eq_true rfl, Nat.le_of_ble_eq_true rfl⟩ rfl ?_
      refine z_iconst dX12_alike_31 ⟨by decide, by decide⟩ ?_
      refine n_istore (lo' := [some (2, 113), some (0, a), some (0, x10), some (0, m8 113 21), some (0, 0), none, none]) dX12_alike_32 ⟨Nat.le_of_ble_eq_true rfl, Nat.le_of_ble_eq_true rfl⟩ rfl ?_
      refine z_drop [some (2, 113), some (0, a), some (0, x10), some (0, m8 113 21), some (0, 0), none, none] ⟨rfl, rfl, rfl, rfl, rfl, trivial⟩ ?_
      exact h9
    · refine z_iconst dX12_alike_19 ⟨by decide, by decide⟩ ?_
      exact z_ireturn dX12_alike_20 rfl rfl ⟨_, rfl, ((h2.2 q5).2.2 q7)⟩
set_option maxRecDepth 20000 in
theorem V_X12_alike_34 {v1 v2 v3 v4 : Int}  {μ : z_Mem} {d : Nat} {K : Int → z_Mem → Prop} (h : (v3 ≤ v4 → z_cn m_X12_moves [(2, 114), (0, 0), (2, 116), (0, 0)] μ d (fun m3 => z_I (143 * v1) ∧ (z_cn m_X12_moves [(2, 118), (0, 143 * v1), (2, 114), (0, 0)] m3 d (fun m5 => z_cn m_X12_laysSkin [(2, 113)] m5 d (fun m7 => (v2 = 0 → z_ri m_X12_alike 135 [some (2, 113), none, none, some (0, v3), some (0, 0), some (0, 0), some (0, 0)] m7 (d + 1) K) ∧ (¬ v2 = 0 → z_ci m_X12_laysOutline [(2, 113)] m7 d (fun x14 m12 => (x14 = 0 → z_ri m_X12_alike 135 [some (2, 113), none, none, some (0, v3), some (0, 0), some (0, 0), some (0, 0)] m12 (d + 1) K) ∧ (¬ x14 = 0 → (¬ v3 = m12 113 21 → z_ri m_X12_alike 135 [some (2, 113), none, none, some (0, v3), some (0, 1), some (0, 0), some (0, 0)] m12 (d + 1) K) ∧ (v3 = m12 113 21 → z_ri m_X12_alike 135 [some (2, 113), none, none, some (0, v3), some (0, 1), some (0, 1), some (0, 0)] m12 (d + 1) K))))))))) ∧ (v4 < v3 → ((0 : Int) ≤ v4 ∧ v4 < 30) ∧ (((0 : Int) ≤ v4 ∧ v4 < 30) ∧ (z_I (v4 + 1) ∧ (z_ri m_X12_alike 34 [some (2, 113), some (0, v1), some (0, v2), some (0, v3), some (0, v4 + 1), none, none] (z_st μ 147 v4 (μ 146 v4)) (d + 1) K))))) : z_ri m_X12_alike 34 [some (2, 113), some (0, v1), some (0, v2), some (0, v3), some (0, v4), none, none] μ (d + 1) K := by
  show z_R m_X12_alike 34 [some (2, 113), some (0, v1), some (0, v2), some (0, v3), some (0, v4), none, none] [] z_n μ (d + 1) _
  refine z_iload dX12_alike_34 rfl ?_
  refine z_iload_n dX12_alike_36 rfl ?_
  refine z_icmp_ge (tgt := 60) dX12_alike_37 (by decide) (fun q1 => ?_) (fun q2 => ?_)
  · refine z_aload_n dX12_alike_60 rfl ?_
    refine n_getp (ji := 0) dX12_alike_61 zf_X12_9 k_113 rfl (by decide) rfl p_113_0 ?_
    refine z_iconst dX12_alike_64 ⟨by decide, by decide⟩ ?_
    refine z_aload_n dX12_alike_65 rfl ?_
    refine n_getp (ji := 2) dX12_alike_66 zf_X12_16 k_113 rfl (by decide) rfl p_113_2 ?_
    refine z_iconst dX12_alike_69 ⟨by decide, by decide⟩ ?_
    refine n_sN (as := [(2, 114), (0, 0), (2, 116), (0, 0)]) (rest := []) dX12_alike_70 zm_X12_moves zs_X12_195 rfl rfl (Nat.le_of_ble_eq_true rfl) (Nat.le_of_ble_eq_true rfl) (h.1 q1) (fun m3 h4 => ?_)
    refine z_aload_n dX12_alike_73 rfl ?_
    refine n_getp (ji := 4) dX12_alike_74 zf_X12_22 k_113 rfl (by decide) rfl p_113_4 ?_
    refine z_sipush dX12_alike_77 (by decide) ?_
    refine z_iload_n dX12_alike_80 rfl ?_
    refine z_imul dX12_alike_81 h4.1 ?_
    refine z_aload_n dX12_alike_82 rfl ?_
    refine n_getp (ji := 0) dX12_alike_83 zf_X12_9 k_113 rfl (by decide) rfl p_113_0 ?_
    refine z_iconst dX12_alike_86 ⟨by decide, by decide⟩ ?_
    refine n_sN (as := [(2, 118), (0, 143 * v1), (2, 114), (0, 0)]) (rest := []) dX12_alike_87 zm_X12_moves zs_X12_195 rfl rfl (Nat.le_of_ble_eq_true rfl) (Nat.le_of_ble_eq_true rfl) h4.2 (fun m5 h6 => ?_)
    refine z_aload_n dX12_alike_90 rfl ?_
    refine n_vN (as := []) (rest := []) dX12_alike_91 zm_X12_laysSkin zs_X12_202 k_113 (by decide) rfl rfl (Nat.le_of_ble_eq_true rfl) (Nat.le_of_ble_eq_true rfl) h6 (fun m7 h8 => ?_)
    refine z_iload_n dX12_alike_94 rfl ?_
    refine z_if_eq (tgt := 109) dX12_alike_95 (by decide) (fun q9 => ?_) (fun q10 => ?_)
    · refine z_iconst dX12_alike_109 ⟨by decide, by decide⟩ ?_
      refine n_istore (lo' := [some (2, 113), some (0, v1), some (0, v2), some (0, v3), some (0, 0), none, none]) dX12_alike_110 ⟨Nat.le_of_ble_eq_true rfl, Nat.le_of_ble_eq_true rfl⟩ rfl ?_
      refine z_iload dX12_alike_112 rfl ?_
      refine z_if_eq (tgt := 129) dX12_alike_114 (by decide) (fun _ => ?_) (fun q11 => absurd q11 (by decide))
      refine z_iconst dX12_alike_129 ⟨by decide, by decide⟩ ?_
      refine n_istore (lo' := [some (2, 113), some (0, v1), some (0, v2), some (0, v3), some (0, 0), some (0, 0), none]) dX12_alike_130 ⟨Nat.le_of_ble_eq_true rfl, Nat.le_of_ble_eq_true rfl⟩ rfl ?_
      refine z_iconst dX12_alike_132 ⟨by decide, by decide⟩ ?_
      refine n_istore (lo' := [some (2, 113), some (0, v1), some (0, v2), some (0, v3), some (0, 0), some (0, 0), some (0, 0)]) dX12_alike_133 ⟨Nat.le_of_ble_eq_true rfl, Nat.le_of_ble_eq_true rfl⟩ rfl ?_
      refine z_drop [some (2, 113), none, none, some (0, v3), some (0, 0), some (0, 0), some (0, 0)] ⟨rfl, rfl, rfl, rfl, rfl, trivial⟩ ?_
      exact (h8.1 q9)
    · refine z_aload_n dX12_alike_98 rfl ?_
      refine n_vI (as := []) (rest := []) dX12_alike_99 zm_X12_laysOutline zs_X12_419 k_113 (by decide) rfl rfl (Nat.le_of_ble_eq_true rfl) (Nat.le_of_ble_eq_true rfl) (h8.2 q10) (fun x14 m12 h13 => ?_)
      refine z_if_eq (tgt := 109) dX12_alike_102 (by decide) (fun q15 => ?_) (fun q16 => ?_)
      · refine z_iconst dX12_alike_109 ⟨by decide, by decide⟩ ?_
        refine n_istore (lo' := [some (2, 113), some (0, v1), some (0, v2), some (0, v3), some (0, 0), none, none]) dX12_alike_110 ⟨Nat.le_of_ble_eq_true rfl, Nat.le_of_ble_eq_true rfl⟩ rfl ?_
        refine z_iload dX12_alike_112 rfl ?_
        refine z_if_eq (tgt := 129) dX12_alike_114 (by decide) (fun _ => ?_) (fun q17 => absurd q17 (by decide))
        refine z_iconst dX12_alike_129 ⟨by decide, by decide⟩ ?_
        refine n_istore (lo' := [some (2, 113), some (0, v1), some (0, v2), some (0, v3), some (0, 0), some (0, 0), none]) dX12_alike_130 ⟨Nat.le_of_ble_eq_true rfl, Nat.le_of_ble_eq_true rfl⟩ rfl ?_
        refine z_iconst dX12_alike_132 ⟨by decide, by decide⟩ ?_
        refine n_istore (lo' := [some (2, 113), some (0, v1), some (0, v2), some (0, v3), some (0, 0), some (0, 0), some (0, 0)]) dX12_alike_133 ⟨Nat.le_of_ble_eq_true rfl, Nat.le_of_ble_eq_true rfl⟩ rfl ?_
        refine z_drop [some (2, 113), none, none, some (0, v3), some (0, 0), some (0, 0), some (0, 0)] ⟨rfl, rfl, rfl, rfl, rfl, trivial⟩ ?_
        exact (h13.1 q15)
      · refine z_iconst dX12_alike_105 ⟨by decide, by decide⟩ ?_
        refine z_goto (tgt := 110) dX12_alike_106 (by decide) ?_
        refine n_istore (lo' := [some (2, 113), some (0, v1), some (0, v2), some (0, v3), some (0, 1), none, none]) dX12_alike_110 ⟨Nat.le_of_ble_eq_true rfl, Nat.le_of_ble_eq_true rfl⟩ rfl ?_
        refine z_iload dX12_alike_112 rfl ?_
        refine z_if_eq (tgt := 129) dX12_alike_114 (by decide) (fun q18 => absurd q18 (by decide)) (fun _ => ?_)
        refine z_iload_n dX12_alike_117 rfl ?_
        refine z_aload_n dX12_alike_118 rfl ?_
        refine n_getf (ji := 21) (t := 0) dX12_alike_119 zf_X12_205 k_113 rfl (by decide) rfl ?_
        refine z_icmp_ne (tgt := 129) dX12_alike_122 (by decide) (fun q19 => ?_) (fun q20 => ?_)
        · refine z_iconst dX12_alike_129 ⟨by decide, by decide⟩ ?_
          refine n_istore (lo' := [some (2, 113), some (0, v1), some (0, v2), some (0, v3), some (0, 1), some (0, 0), none]) dX12_alike_130 ⟨Nat.le_of_ble_eq_true rfl, Nat.le_of_ble_eq_true rfl⟩ rfl ?_
          refine z_iconst dX12_alike_132 ⟨by decide, by decide⟩ ?_
          refine n_istore (lo' := [some (2, 113), some (0, v1), some (0, v2), some (0, v3), some (0, 1), some (0, 0), some (0, 0)]) dX12_alike_133 ⟨Nat.le_of_ble_eq_true rfl, Nat.le_of_ble_eq_true rfl⟩ rfl ?_
          refine z_drop [some (2, 113), none, none, some (0, v3), some (0, 1), some (0, 0), some (0, 0)] ⟨rfl, rfl, rfl, rfl, rfl, trivial⟩ ?_
          exact ((h13.2 q16).1 q19)
        · refine z_iconst dX12_alike_125 ⟨by decide, by decide⟩ ?_
          refine z_goto (tgt := 130) dX12_alike_126 (by decide) ?_
          refine n_istore (lo' := [some (2, 113), some (0, v1), some (0, v2), some (0, v3), some (0, 1), some (0, 1), none]) dX12_alike_130 ⟨Nat.le_of_ble_eq_true rfl, Nat.le_of_ble_eq_true rfl⟩ rfl ?_
          refine z_iconst dX12_alike_132 ⟨by decide, by decide⟩ ?_
          refine n_istore (lo' := [some (2, 113), some (0, v1), some (0, v2), some (0, v3), some (0, 1), some (0, 1), some (0, 0)]) dX12_alike_133 ⟨Nat.le_of_ble_eq_true rfl, Nat.le_of_ble_eq_true rfl⟩ rfl ?_
          refine z_drop [some (2, 113), none, none, some (0, v3), some (0, 1), some (0, 1), some (0, 0)] ⟨rfl, rfl, rfl, rfl, rfl, trivial⟩ ?_
          exact ((h13.2 q16).2 q20)
  · refine z_aload_n dX12_alike_40 rfl ?_
    refine n_getp (ji := 49) dX12_alike_41 zf_X12_111 k_113 rfl (by decide) rfl p_113_49 ?_
    refine z_iload dX12_alike_44 rfl ?_
    refine z_aload_n dX12_alike_46 rfl ?_
    refine n_getp (ji := 48) dX12_alike_47 zf_X12_108 k_113 rfl (by decide) rfl p_113_48 ?_
    refine z_iload dX12_alike_50 rfl ?_
    refine n_iald dX12_alike_52 k_146 (h.2 q2).1 ?_
    refine n_iast dX12_alike_53 k_147 (h.2 q2).2.1 ?_
    refine n_iinc (lo' := [some (2, 113), some (0, v1), some (0, v2), some (0, v3), some (0, v4 + 1), none, none]) dX12_alike_54 rfl (by decide) (h.2 q2).2.2.1 rfl ?_
    refine z_goto (tgt := 34) dX12_alike_57 (by decide) ?_
    refine z_drop [some (2, 113), some (0, v1), some (0, v2), some (0, v3), some (0, v4 + 1), none, none] ⟨rfl, rfl, rfl, rfl, rfl, trivial⟩ ?_
    exact (h.2 q2).2.2.2
set_option maxRecDepth 20000 in
theorem V_X12_alike_135 {v3 v4 v5 v6 : Int}  {μ : z_Mem} {d : Nat} {K : Int → z_Mem → Prop} (h : (v3 ≤ v6 → z_cn m_X12_moves [(2, 116), (0, 0), (2, 114), (0, 0)] μ d (fun m3 => z_cn m_X12_laysSkin [(2, 113)] m3 d (fun m5 => (v4 = 0 → K (-2) m5) ∧ (¬ v4 = 0 → z_ci m_X12_truth [(0, v5)] m5 d (fun x11 m9 => K x11 m9))))) ∧ (v6 < v3 → (v5 = 0 → z_cn m_X12_moves [(2, 116), (0, 0), (2, 114), (0, 0)] μ d (fun m14 => z_cn m_X12_laysSkin [(2, 113)] m14 d (fun m16 => (v4 = 0 → K (-2) m16) ∧ (¬ v4 = 0 → z_ci m_X12_truth [(0, v5)] m16 d (fun x22 m20 => K x22 m20))))) ∧ (¬ v5 = 0 → ((0 : Int) ≤ v6 ∧ v6 < 30) ∧ (((0 : Int) ≤ v6 ∧ v6 < 30) ∧ ((¬ μ 147 v6 = μ 146 v6 → z_I (v6 + 1) ∧ (z_ri m_X12_alike 135 [some (2, 113), none, none, some (0, v3), some (0, v4), some (0, 0), some (0, v6 + 1)] μ (d + 1) K)) ∧ (μ 147 v6 = μ 146 v6 → z_I (v6 + 1) ∧ (z_ri m_X12_alike 135 [some (2, 113), none, none, some (0, v3), some (0, v4), some (0, 1), some (0, v6 + 1)] μ (d + 1) K))))))) : z_ri m_X12_alike 135 [some (2, 113), none, none, some (0, v3), some (0, v4), some (0, v5), some (0, v6)] μ (d + 1) K := by
  show z_R m_X12_alike 135 [some (2, 113), none, none, some (0, v3), some (0, v4), some (0, v5), some (0, v6)] [] z_n μ (d + 1) _
  refine z_iload dX12_alike_135 rfl ?_
  refine z_iload_n dX12_alike_137 rfl ?_
  refine z_icmp_ge (tgt := 176) dX12_alike_138 (by decide) (fun q1 => ?_) (fun q2 => ?_)
  · refine z_aload_n dX12_alike_176 rfl ?_
    refine n_getp (ji := 2) dX12_alike_177 zf_X12_16 k_113 rfl (by decide) rfl p_113_2 ?_
    refine z_iconst dX12_alike_180 ⟨by decide, by decide⟩ ?_
    refine z_aload_n dX12_alike_181 rfl ?_
    refine n_getp (ji := 0) dX12_alike_182 zf_X12_9 k_113 rfl (by decide) rfl p_113_0 ?_
    refine z_iconst dX12_alike_185 ⟨by decide, by decide⟩ ?_
    refine n_sN (as := [(2, 116), (0, 0), (2, 114), (0, 0)]) (rest := []) dX12_alike_186 zm_X12_moves zs_X12_195 rfl rfl (Nat.le_of_ble_eq_true rfl) (Nat.le_of_ble_eq_true rfl) (h.1 q1) (fun m3 h4 => ?_)
    refine z_aload_n dX12_alike_189 rfl ?_
    refine n_vN (as := []) (rest := []) dX12_alike_190 zm_X12_laysSkin zs_X12_202 k_113 (by decide) rfl rfl (Nat.le_of_ble_eq_true rfl) (Nat.le_of_ble_eq_true rfl) h4 (fun m5 h6 => ?_)
    refine z_iload dX12_alike_193 rfl ?_
    refine z_if_eq (tgt := 206) dX12_alike_195 (by decide) (fun q7 => ?_) (fun q8 => ?_)
    · refine z_bipush dX12_alike_206 (by decide) ?_
      exact z_ireturn dX12_alike_208 rfl rfl ⟨_, rfl, (h6.1 q7)⟩
    · refine z_iload dX12_alike_198 rfl ?_
      refine n_sI (as := [(0, v5)]) (rest := []) dX12_alike_200 zm_X12_truth zs_X12_185 rfl rfl (Nat.le_of_ble_eq_true rfl) (Nat.le_of_ble_eq_true rfl) (h6.2 q8) (fun x11 m9 h10 => ?_)
      refine z_goto (tgt := 208) dX12_alike_203 (by decide) ?_
      exact z_ireturn dX12_alike_208 rfl rfl ⟨_, rfl, h10⟩
  · refine z_iload dX12_alike_141 rfl ?_
    refine z_if_eq (tgt := 176) dX12_alike_143 (by decide) (fun q12 => ?_) (fun q13 => ?_)
    · refine z_aload_n dX12_alike_176 rfl ?_
      refine n_getp (ji := 2) dX12_alike_177 zf_X12_16 k_113 rfl (by decide) rfl p_113_2 ?_
      refine z_iconst dX12_alike_180 ⟨by decide, by decide⟩ ?_
      refine z_aload_n dX12_alike_181 rfl ?_
      refine n_getp (ji := 0) dX12_alike_182 zf_X12_9 k_113 rfl (by decide) rfl p_113_0 ?_
      refine z_iconst dX12_alike_185 ⟨by decide, by decide⟩ ?_
      refine n_sN (as := [(2, 116), (0, 0), (2, 114), (0, 0)]) (rest := []) dX12_alike_186 zm_X12_moves zs_X12_195 rfl rfl (Nat.le_of_ble_eq_true rfl) (Nat.le_of_ble_eq_true rfl) ((h.2 q2).1 q12) (fun m14 h15 => ?_)
      refine z_aload_n dX12_alike_189 rfl ?_
      refine n_vN (as := []) (rest := []) dX12_alike_190 zm_X12_laysSkin zs_X12_202 k_113 (by decide) rfl rfl (Nat.le_of_ble_eq_true rfl) (Nat.le_of_ble_eq_true rfl) h15 (fun m16 h17 => ?_)
      refine z_iload dX12_alike_193 rfl ?_
      refine z_if_eq (tgt := 206) dX12_alike_195 (by decide) (fun q18 => ?_) (fun q19 => ?_)
      · refine z_bipush dX12_alike_206 (by decide) ?_
        exact z_ireturn dX12_alike_208 rfl rfl ⟨_, rfl, (h17.1 q18)⟩
      · refine z_iload dX12_alike_198 rfl ?_
        refine n_sI (as := [(0, v5)]) (rest := []) dX12_alike_200 zm_X12_truth zs_X12_185 rfl rfl (Nat.le_of_ble_eq_true rfl) (Nat.le_of_ble_eq_true rfl) (h17.2 q19) (fun x22 m20 h21 => ?_)
        refine z_goto (tgt := 208) dX12_alike_203 (by decide) ?_
        exact z_ireturn dX12_alike_208 rfl rfl ⟨_, rfl, h21⟩
    · refine z_aload_n dX12_alike_146 rfl ?_
      refine n_getp (ji := 49) dX12_alike_147 zf_X12_111 k_113 rfl (by decide) rfl p_113_49 ?_
      refine z_iload dX12_alike_150 rfl ?_
      refine n_iald dX12_alike_152 k_147 ((h.2 q2).2 q13).1 ?_
      refine z_aload_n dX12_alike_153 rfl ?_
      refine n_getp (ji := 48) dX12_alike_154 zf_X12_108 k_113 rfl (by decide) rfl p_113_48 ?_
      refine z_iload dX12_alike_157 rfl ?_
      refine n_iald dX12_alike_159 k_146 ((h.2 q2).2 q13).2.1 ?_
      refine z_icmp_ne (tgt := 167) dX12_alike_160 (by decide) (fun q23 => ?_) (fun q24 => ?_)
      · refine z_iconst dX12_alike_167 ⟨by decide, by decide⟩ ?_
        refine n_istore (lo' := [some (2, 113), none, none, some (0, v3), some (0, v4), some (0, 0), some (0, v6)]) dX12_alike_168 ⟨Nat.le_of_ble_eq_true rfl, Nat.le_of_ble_eq_true rfl⟩ rfl ?_
        refine n_iinc (lo' := [some (2, 113), none, none, some (0, v3), some (0, v4), some (0, 0), some (0, v6 + 1)]) dX12_alike_170 rfl (by decide) (((h.2 q2).2 q13).2.2.1 q23).1 rfl ?_
        refine z_goto (tgt := 135) dX12_alike_173 (by decide) ?_
        refine z_drop [some (2, 113), none, none, some (0, v3), some (0, v4), some (0, 0), some (0, v6 + 1)] ⟨rfl, rfl, rfl, rfl, rfl, trivial⟩ ?_
        exact (((h.2 q2).2 q13).2.2.1 q23).2
      · refine z_iconst dX12_alike_163 ⟨by decide, by decide⟩ ?_
        refine z_goto (tgt := 168) dX12_alike_164 (by decide) ?_
        refine n_istore (lo' := [some (2, 113), none, none, some (0, v3), some (0, v4), some (0, 1), some (0, v6)]) dX12_alike_168 ⟨Nat.le_of_ble_eq_true rfl, Nat.le_of_ble_eq_true rfl⟩ rfl ?_
        refine n_iinc (lo' := [some (2, 113), none, none, some (0, v3), some (0, v4), some (0, 1), some (0, v6 + 1)]) dX12_alike_170 rfl (by decide) (((h.2 q2).2 q13).2.2.2 q24).1 rfl ?_
        refine z_goto (tgt := 135) dX12_alike_173 (by decide) ?_
        refine z_drop [some (2, 113), none, none, some (0, v3), some (0, v4), some (0, 1), some (0, v6 + 1)] ⟨rfl, rfl, rfl, rfl, rfl, trivial⟩ ?_
        exact (((h.2 q2).2 q13).2.2.2 q24).2
set_option maxRecDepth 20000 in
theorem V_X12_unfree  {μ : z_Mem} {d : Nat} {K : Int → z_Mem → Prop} (h : z_ci m_X12_places [(2, 113)] μ d (fun x3 m1 => z_ri m_X12_unfree 9 [some (2, 113), some (0, 0), some (0, 0)] m1 (d + 1) K)) : z_ci m_X12_unfree [(2, 113)] μ (d + 1) K := by
  show z_R m_X12_unfree 0 [some (2, 113), none, none] [] z_n μ (d + 1) _
  refine z_aload_n dX12_unfree_0 rfl ?_
  refine n_vI (as := []) (rest := []) dX12_unfree_1 zm_X12_places zs_X12_304 k_113 (by decide) rfl rfl (Nat.le_of_ble_eq_true rfl) (Nat.le_of_ble_eq_true rfl) h (fun x3 m1 h2 => ?_)
  refine z_pop dX12_unfree_4 rfl ?_
  refine z_iconst dX12_unfree_5 ⟨by decide, by decide⟩ ?_
  refine n_istore_n (lo' := [some (2, 113), some (0, 0), none]) dX12_unfree_6 ⟨Nat.le_of_ble_eq_true rfl, Nat.le_of_ble_eq_true rfl⟩ rfl ?_
  refine z_iconst dX12_unfree_7 ⟨by decide, by decide⟩ ?_
  refine n_istore_n (lo' := [some (2, 113), some (0, 0), some (0, 0)]) dX12_unfree_8 ⟨Nat.le_of_ble_eq_true rfl, Nat.le_of_ble_eq_true rfl⟩ rfl ?_
  refine z_drop [some (2, 113), some (0, 0), some (0, 0)] ⟨rfl, rfl, rfl, trivial⟩ ?_
  exact h2
set_option maxRecDepth 20000 in
theorem V_X12_unfree_9 {v1 v2 : Int}  {μ : z_Mem} {d : Nat} {K : Int → z_Mem → Prop} (h : (μ 113 22 ≤ v2 → K v1 μ) ∧ (v2 < μ 113 22 → z_ci m_X12_isHinge [(2, 113), (0, v2)] μ d (fun x5 m3 => (¬ x5 = 0 → z_ci m_X12_truth [(0, 0)] m3 d (fun x10 m8 => z_I (v1 + x10) ∧ (z_I (v2 + 1) ∧ (z_ri m_X12_unfree 9 [some (2, 113), some (0, v1 + x10), some (0, v2 + 1)] m8 (d + 1) K)))) ∧ (x5 = 0 → z_ci m_X12_isFree [(2, 113), (0, v2)] m3 d (fun x13 m11 => (¬ x13 = 0 → z_ci m_X12_truth [(0, 0)] m11 d (fun x18 m16 => z_I (v1 + x18) ∧ (z_I (v2 + 1) ∧ (z_ri m_X12_unfree 9 [some (2, 113), some (0, v1 + x18), some (0, v2 + 1)] m16 (d + 1) K)))) ∧ (x13 = 0 → z_ci m_X12_truth [(0, 1)] m11 d (fun x21 m19 => z_I (v1 + x21) ∧ (z_I (v2 + 1) ∧ (z_ri m_X12_unfree 9 [some (2, 113), some (0, v1 + x21), some (0, v2 + 1)] m19 (d + 1) K))))))))) : z_ri m_X12_unfree 9 [some (2, 113), some (0, v1), some (0, v2)] μ (d + 1) K := by
  show z_R m_X12_unfree 9 [some (2, 113), some (0, v1), some (0, v2)] [] z_n μ (d + 1) _
  refine z_iload_n dX12_unfree_9 rfl ?_
  refine z_aload_n dX12_unfree_10 rfl ?_
  refine n_getf (ji := 22) (t := 0) dX12_unfree_11 zf_X12_245 k_113 rfl (by decide) rfl ?_
  refine z_icmp_ge (tgt := 50) dX12_unfree_14 (by decide) (fun q1 => ?_) (fun q2 => ?_)
  · refine z_iload_n dX12_unfree_50 rfl ?_
    exact z_ireturn dX12_unfree_51 rfl rfl ⟨_, rfl, (h.1 q1)⟩
  · refine z_iload_n dX12_unfree_17 rfl ?_
    refine z_aload_n dX12_unfree_18 rfl ?_
    refine z_iload_n dX12_unfree_19 rfl ?_
    refine n_vI (as := [(0, v2)]) (rest := [(0, v1)]) dX12_unfree_20 zm_X12_isHinge zs_X12_257 k_113 (by decide) rfl rfl (Nat.le_of_ble_eq_true rfl) (Nat.le_of_ble_eq_true rfl) (h.2 q2) (fun x5 m3 h4 => ?_)
    refine z_if_ne (tgt := 38) dX12_unfree_23 (by decide) (fun q6 => ?_) (fun q7 => ?_)
    · refine z_iconst dX12_unfree_38 ⟨by decide, by decide⟩ ?_
      refine n_sI (as := [(0, 0)]) (rest := [(0, v1)]) dX12_unfree_39 zm_X12_truth zs_X12_185 rfl rfl (Nat.le_of_ble_eq_true rfl) (Nat.le_of_ble_eq_true rfl) (h4.1 q6) (fun x10 m8 h9 => ?_)
      refine z_iadd dX12_unfree_42 h9.1 ?_
      refine n_istore_n (lo' := [some (2, 113), some (0, v1 + x10), some (0, v2)]) dX12_unfree_43 ⟨Nat.le_of_ble_eq_true rfl, Nat.le_of_ble_eq_true rfl⟩ rfl ?_
      refine n_iinc (lo' := [some (2, 113), some (0, v1 + x10), some (0, v2 + 1)]) dX12_unfree_44 rfl (by decide) h9.2.1 rfl ?_
      refine z_goto (tgt := 9) dX12_unfree_47 (by decide) ?_
      refine z_drop [some (2, 113), some (0, v1 + x10), some (0, v2 + 1)] ⟨rfl, rfl, rfl, trivial⟩ ?_
      exact h9.2.2
    · refine z_aload_n dX12_unfree_26 rfl ?_
      refine z_iload_n dX12_unfree_27 rfl ?_
      refine n_vI (as := [(0, v2)]) (rest := [(0, v1)]) dX12_unfree_28 zm_X12_isFree zs_X12_353 k_113 (by decide) rfl rfl (Nat.le_of_ble_eq_true rfl) (Nat.le_of_ble_eq_true rfl) (h4.2 q7) (fun x13 m11 h12 => ?_)
      refine z_if_ne (tgt := 38) dX12_unfree_31 (by decide) (fun q14 => ?_) (fun q15 => ?_)
      · refine z_iconst dX12_unfree_38 ⟨by decide, by decide⟩ ?_
        refine n_sI (as := [(0, 0)]) (rest := [(0, v1)]) dX12_unfree_39 zm_X12_truth zs_X12_185 rfl rfl (Nat.le_of_ble_eq_true rfl) (Nat.le_of_ble_eq_true rfl) (h12.1 q14) (fun x18 m16 h17 => ?_)
        refine z_iadd dX12_unfree_42 h17.1 ?_
        refine n_istore_n (lo' := [some (2, 113), some (0, v1 + x18), some (0, v2)]) dX12_unfree_43 ⟨Nat.le_of_ble_eq_true rfl, Nat.le_of_ble_eq_true rfl⟩ rfl ?_
        refine n_iinc (lo' := [some (2, 113), some (0, v1 + x18), some (0, v2 + 1)]) dX12_unfree_44 rfl (by decide) h17.2.1 rfl ?_
        refine z_goto (tgt := 9) dX12_unfree_47 (by decide) ?_
        refine z_drop [some (2, 113), some (0, v1 + x18), some (0, v2 + 1)] ⟨rfl, rfl, rfl, trivial⟩ ?_
        exact h17.2.2
      · refine z_iconst dX12_unfree_34 ⟨by decide, by decide⟩ ?_
        refine z_goto (tgt := 39) dX12_unfree_35 (by decide) ?_
        refine n_sI (as := [(0, 1)]) (rest := [(0, v1)]) dX12_unfree_39 zm_X12_truth zs_X12_185 rfl rfl (Nat.le_of_ble_eq_true rfl) (Nat.le_of_ble_eq_true rfl) (h12.2 q15) (fun x21 m19 h20 => ?_)
        refine z_iadd dX12_unfree_42 h20.1 ?_
        refine n_istore_n (lo' := [some (2, 113), some (0, v1 + x21), some (0, v2)]) dX12_unfree_43 ⟨Nat.le_of_ble_eq_true rfl, Nat.le_of_ble_eq_true rfl⟩ rfl ?_
        refine n_iinc (lo' := [some (2, 113), some (0, v1 + x21), some (0, v2 + 1)]) dX12_unfree_44 rfl (by decide) h20.2.1 rfl ?_
        refine z_goto (tgt := 9) dX12_unfree_47 (by decide) ?_
        refine z_drop [some (2, 113), some (0, v1 + x21), some (0, v2 + 1)] ⟨rfl, rfl, rfl, trivial⟩ ?_
        exact h20.2.2
set_option maxRecDepth 20000 in
theorem V_X12_count {a : Int}  {μ : z_Mem} {d : Nat} {K : Int → z_Mem → Prop} (h : (a = 0 → K (μ 114 0) μ) ∧ (a = 1 → K (μ 113 21) μ) ∧ (a = 2 → K (μ 113 22) μ) ∧ (a = 3 → K (μ 113 23) μ) ∧ (a = 4 → z_ci m_X12_hinges [(2, 113)] μ d (fun x7 m5 => K x7 m5)) ∧ (a = 5 → K (μ 114 22) μ) ∧ (a = 6 → z_ci m_X12_places [(2, 113)] μ d (fun x10 m8 => K x10 m8)) ∧ (a = 7 → K (μ 113 6) μ) ∧ (a = 8 → K (μ 113 8) μ) ∧ (a = 9 → z_ci m_X12_truth [(0, μ 119 0)] μ d (fun x13 m11 => z_ci m_X12_truth [(0, m11 119 1)] m11 d (fun x16 m14 => z_I (x16 * 2 ^ (1 : Int).toNat) ∧ (((0 : Int) ≤ x13 ∧ (0 : Int) ≤ x16 * 2 ^ (1 : Int).toNat) ∧ (K ((((x13 : Int).toNat ||| (x16 * 2 ^ (1 : Int).toNat : Int).toNat : Nat)) : Int) m14))))) ∧ (a = 10 → z_ci m_X12_unfree [(2, 113)] μ d (fun x19 m17 => K x19 m17)) ∧ (a < 0 ∨ 10 < a → K (-1) μ)) : z_ci m_X12_count [(2, 113), (0, a)] μ (d + 1) K := by
  show z_R m_X12_count 0 [some (2, 113), some (0, a)] [] z_n μ (d + 1) _
  refine z_iload_n dX12_count_0 rfl ?_
  refine z_table dX12_count_1 [60, 67, 72, 77, 82, 87, 95, 100, 105, 110, 132] 137 (by decide) (by decide) (by decide) (fun i1 q2 q3 => ?_) (fun q4 => ?_)
  · match i1, q2, q3 with
    | 0, _, q3 =>
      refine z_aload_n dX12_count_60 rfl ?_
      refine n_getp (ji := 0) dX12_count_61 zf_X12_9 k_113 rfl (by decide) rfl p_113_0 ?_
      refine z_iconst dX12_count_64 ⟨by decide, by decide⟩ ?_
      refine n_iald dX12_count_65 k_114 (by decide) ?_
      exact z_ireturn dX12_count_66 rfl rfl ⟨_, rfl, (h.1 (by simpa using q3))⟩
    | 1, _, q3 =>
      refine z_aload_n dX12_count_67 rfl ?_
      refine n_getf (ji := 21) (t := 0) dX12_count_68 zf_X12_205 k_113 rfl (by decide) rfl ?_
      exact z_ireturn dX12_count_71 rfl rfl ⟨_, rfl, (h.2.1 (by simpa using q3))⟩
    | 2, _, q3 =>
      refine z_aload_n dX12_count_72 rfl ?_
      refine n_getf (ji := 22) (t := 0) dX12_count_73 zf_X12_245 k_113 rfl (by decide) rfl ?_
      exact z_ireturn dX12_count_76 rfl rfl ⟨_, rfl, (h.2.2.1 (by simpa using q3))⟩
    | 3, _, q3 =>
      refine z_aload_n dX12_count_77 rfl ?_
      refine n_getf (ji := 23) (t := 0) dX12_count_78 zf_X12_251 k_113 rfl (by decide) rfl ?_
      exact z_ireturn dX12_count_81 rfl rfl ⟨_, rfl, (h.2.2.2.1 (by simpa using q3))⟩
    | 4, _, q3 =>
      refine z_aload_n dX12_count_82 rfl ?_
      refine n_vI (as := []) (rest := []) dX12_count_83 zm_X12_hinges zs_X12_254 k_113 (by decide) rfl rfl (Nat.le_of_ble_eq_true rfl) (Nat.le_of_ble_eq_true rfl) (h.2.2.2.2.1 (by simpa using q3)) (fun x7 m5 h6 => ?_)
      exact z_ireturn dX12_count_86 rfl rfl ⟨_, rfl, h6⟩
    | 5, _, q3 =>
      refine z_aload_n dX12_count_87 rfl ?_
      refine n_getp (ji := 0) dX12_count_88 zf_X12_9 k_113 rfl (by decide) rfl p_113_0 ?_
      refine z_bipush dX12_count_91 (by decide) ?_
      refine n_iald dX12_count_93 k_114 (by decide) ?_
      exact z_ireturn dX12_count_94 rfl rfl ⟨_, rfl, (h.2.2.2.2.2.1 (by simpa using q3))⟩
    | 6, _, q3 =>
      refine z_aload_n dX12_count_95 rfl ?_
      refine n_vI (as := []) (rest := []) dX12_count_96 zm_X12_places zs_X12_304 k_113 (by decide) rfl rfl (Nat.le_of_ble_eq_true rfl) (Nat.le_of_ble_eq_true rfl) (h.2.2.2.2.2.2.1 (by simpa using q3)) (fun x10 m8 h9 => ?_)
      exact z_ireturn dX12_count_99 rfl rfl ⟨_, rfl, h9⟩
    | 7, _, q3 =>
      refine z_aload_n dX12_count_100 rfl ?_
      refine n_getf (ji := 6) (t := 0) dX12_count_101 zf_X12_199 k_113 rfl (by decide) rfl ?_
      exact z_ireturn dX12_count_104 rfl rfl ⟨_, rfl, (h.2.2.2.2.2.2.2.1 (by simpa using q3))⟩
    | 8, _, q3 =>
      refine z_aload_n dX12_count_105 rfl ?_
      refine n_getf (ji := 8) (t := 0) dX12_count_106 zf_X12_114 k_113 rfl (by decide) rfl ?_
      exact z_ireturn dX12_count_109 rfl rfl ⟨_, rfl, (h.2.2.2.2.2.2.2.2.1 (by simpa using q3))⟩
    | 9, _, q3 =>
      refine z_aload_n dX12_count_110 rfl ?_
      refine n_getp (ji := 5) dX12_count_111 zf_X12_25 k_113 rfl (by decide) rfl p_113_5 ?_
      refine z_iconst dX12_count_114 ⟨by decide, by decide⟩ ?_
      refine n_zald dX12_count_115 k_119 (by decide) ?_
      refine n_sI (as := [(0, μ 119 0)]) (rest := []) dX12_count_116 zm_X12_truth zs_X12_185 rfl rfl (Nat.le_of_ble_eq_true rfl) (Nat.le_of_ble_eq_true rfl) (h.2.2.2.2.2.2.2.2.2.1 (by simpa using q3)) (fun x13 m11 h12 => ?_)
      refine z_aload_n dX12_count_119 rfl ?_
      refine n_getp (ji := 5) dX12_count_120 zf_X12_25 k_113 rfl (by decide) rfl p_113_5 ?_
      refine z_iconst dX12_count_123 ⟨by decide, by decide⟩ ?_
      refine n_zald dX12_count_124 k_119 (by decide) ?_
      refine n_sI (as := [(0, m11 119 1)]) (rest := [(0, x13)]) dX12_count_125 zm_X12_truth zs_X12_185 rfl rfl (Nat.le_of_ble_eq_true rfl) (Nat.le_of_ble_eq_true rfl) h12 (fun x16 m14 h15 => ?_)
      refine z_iconst dX12_count_128 ⟨by decide, by decide⟩ ?_
      refine n_ishl dX12_count_129 (by decide) h15.1 ?_
      refine z_ior dX12_count_130 h15.2.1.1 h15.2.1.2 ?_
      exact z_ireturn dX12_count_131 rfl rfl ⟨_, rfl, h15.2.2⟩
    | 10, _, q3 =>
      refine z_aload_n dX12_count_132 rfl ?_
      refine n_vI (as := []) (rest := []) dX12_count_133 zm_X12_unfree zs_X12_426 k_113 (by decide) rfl rfl (Nat.le_of_ble_eq_true rfl) (Nat.le_of_ble_eq_true rfl) (h.2.2.2.2.2.2.2.2.2.2.1 (by simpa using q3)) (fun x19 m17 h18 => ?_)
      exact z_ireturn dX12_count_136 rfl rfl ⟨_, rfl, h18⟩
    | i1 + 11, q2, _ => exact absurd q2 (by simp)
  · refine z_iconst dX12_count_137 ⟨by decide, by decide⟩ ?_
    exact z_ireturn dX12_count_138 rfl rfl ⟨_, rfl, (h.2.2.2.2.2.2.2.2.2.2.2 q4)⟩

set_option maxRecDepth 20000 in
theorem V_X3_begin {o : Int} (ho : z_kd o = 3) {μ : z_Mem} {d : Nat} {K : z_Mem → Prop} (h : z_rn m_X3_begin 12 [some (2, o), some (0, 0)] (z_st (z_st μ o 0 0) o 1 0) d K) : z_cn m_X3_begin [(2, o)] μ d K := by
  show z_R m_X3_begin 0 [some (2, o), none] [] z_n μ d _
  refine z_aload_n dX3_begin_0 rfl ?_
  refine z_lconst0 dX3_begin_1 ?_
  refine n_putJ (ji := 0) dX3_begin_2 zf_X3_9 ho rfl (by decide) rfl ?_
  refine z_aload_n dX3_begin_5 rfl ?_
  refine z_iconst dX3_begin_6 ⟨by decide, by decide⟩ ?_
  refine n_putI (ji := 1) dX3_begin_7 zf_X3_15 ho rfl (by decide) rfl ?_
  refine z_iconst dX3_begin_10 ⟨by decide, by decide⟩ ?_
  refine n_istore_n (lo' := [some (2, o), some (0, 0)]) dX3_begin_11 ⟨Nat.le_of_ble_eq_true rfl, Nat.le_of_ble_eq_true rfl⟩ rfl ?_
  refine z_drop [some (2, o), some (0, 0)] ⟨rfl, rfl, trivial⟩ ?_
  exact h
set_option maxRecDepth 20000 in
theorem V_X3_begin_12 {v1 o : Int} (ho : z_kd o = 3) {μ : z_Mem} {d : Nat} {K : z_Mem → Prop} (h : (60 ≤ v1 → K μ) ∧ (v1 < 60 → ((0 : Int) ≤ v1 ∧ v1 < 60) ∧ (z_I (v1 + 1) ∧ (z_rn m_X3_begin 12 [some (2, o), some (0, v1 + 1)] (z_st μ (o + 1) v1 1) d K)))) : z_rn m_X3_begin 12 [some (2, o), some (0, v1)] μ d K := by
  show z_R m_X3_begin 12 [some (2, o), some (0, v1)] [] z_n μ d _
  refine z_iload_n dX3_begin_12 rfl ?_
  refine z_bipush dX3_begin_13 (by decide) ?_
  refine z_icmp_ge (tgt := 31) dX3_begin_15 (by decide) (fun q1 => ?_) (fun q2 => ?_)
  · exact z_return dX3_begin_31 rfl rfl ⟨rfl, (h.1 q1)⟩
  · refine z_aload_n dX3_begin_18 rfl ?_
    refine n_getp (ji := 2) dX3_begin_19 zf_X3_19 ho rfl (by decide) rfl (s_3_2_p ho) ?_
    refine z_iload_n dX3_begin_22 rfl ?_
    refine z_iconst dX3_begin_23 ⟨by decide, by decide⟩ ?_
    refine n_iast dX3_begin_24 (s_3_2_k ho) (h.2 q2).1 ?_
    refine n_iinc (lo' := [some (2, o), some (0, v1 + 1)]) dX3_begin_25 rfl (by decide) (h.2 q2).2.1 rfl ?_
    refine z_goto (tgt := 12) dX3_begin_28 (by decide) ?_
    refine z_drop [some (2, o), some (0, v1 + 1)] ⟨rfl, rfl, trivial⟩ ?_
    exact (h.2 q2).2.2
set_option maxRecDepth 20000 in
theorem V_X3_copy {o q : Int} (ho : z_kd o = 3) (hq : z_kd q = 3) {μ : z_Mem} {d : Nat} {K : z_Mem → Prop} (h : K (z_cpy (z_st (z_st μ o 0 (μ q 0)) o 1 ((z_st μ o 0 (μ q 0)) q 1)) (q + 1) 0 (o + 1) 0 60)) : z_cn m_X3_copy [(2, o), (2, q)] μ (d + 1) K := by
  show z_R m_X3_copy 0 [some (2, o), some (2, q)] [] z_n μ (d + 1) _
  refine z_aload_n dX3_copy_0 rfl ?_
  refine z_aload_n dX3_copy_1 rfl ?_
  refine n_getf (ji := 0) (t := 1) dX3_copy_2 zf_X3_9 hq rfl (by decide) rfl ?_
  refine n_putJ (ji := 0) dX3_copy_5 zf_X3_9 ho rfl (by decide) rfl ?_
  refine z_aload_n dX3_copy_8 rfl ?_
  refine z_aload_n dX3_copy_9 rfl ?_
  refine n_getf (ji := 1) (t := 0) dX3_copy_10 zf_X3_15 hq rfl (by decide) rfl ?_
  refine n_putI (ji := 1) dX3_copy_13 zf_X3_15 ho rfl (by decide) rfl ?_
  refine z_aload_n dX3_copy_16 rfl ?_
  refine n_getp (ji := 2) dX3_copy_17 zf_X3_19 hq rfl (by decide) rfl (s_3_2_p hq) ?_
  refine z_iconst dX3_copy_20 ⟨by decide, by decide⟩ ?_
  refine z_aload_n dX3_copy_21 rfl ?_
  refine n_getp (ji := 2) dX3_copy_22 zf_X3_19 ho rfl (by decide) rfl (s_3_2_p ho) ?_
  refine z_iconst dX3_copy_25 ⟨by decide, by decide⟩ ?_
  refine z_bipush dX3_copy_26 (by decide) ?_
  refine z_acopy dX3_copy_28 zq_773 zq_644 zq_643 zq_134 (Nat.le_of_ble_eq_true rfl) (z_isn (s_3_2_k hq).1 (by decide)) (z_isn (s_3_2_k ho).1 (by decide)) (by decide) (by decide) (by decide) (by rw [(s_3_2_k hq).2]; decide) (by rw [(s_3_2_k ho).2]; decide) ?_
  exact z_return dX3_copy_31 rfl rfl ⟨rfl, h⟩
set_option maxRecDepth 20000 in
theorem V_X3_isHinge {o a : Int} (ho : z_kd o = 3) {μ : z_Mem} {d : Nat} {K : Int → z_Mem → Prop} (h : ((0 : Int) ≤ a ∧ a < 64) ∧ (((0 : Int) ≤ μ o 0) ∧ (((0 : Int) ≤ (μ o 0) / 2 ^ (a : Int).toNat ∧ (0 : Int) ≤ 1) ∧ (((((((μ o 0) / 2 ^ (a : Int).toNat : Int).toNat &&& (1 : Int).toNat : Nat)) : Int) = 0 → K 0 μ) ∧ (¬ (((((μ o 0) / 2 ^ (a : Int).toNat : Int).toNat &&& (1 : Int).toNat : Nat)) : Int) = 0 → K 1 μ))))) : z_ci m_X3_isHinge [(2, o), (0, a)] μ d K := by
  show z_R m_X3_isHinge 0 [some (2, o), some (0, a)] [] z_n μ d _
  refine z_aload_n dX3_isHinge_0 rfl ?_
  refine n_getf (ji := 0) (t := 1) dX3_isHinge_1 zf_X3_9 ho rfl (by decide) rfl ?_
  refine z_iload_n dX3_isHinge_4 rfl ?_
  refine n_lushr dX3_isHinge_5 h.1 h.2.1 ?_
  refine z_lconst1 dX3_isHinge_6 ?_
  refine z_land dX3_isHinge_7 h.2.2.1.1 h.2.2.1.2 ?_
  refine z_lconst0 dX3_isHinge_8 ?_
  refine z_lcmp_eq (tgt := 17) dX3_isHinge_9 dX3_isHinge_10 (by decide) (fun q1 => ?_) (fun q2 => ?_)
  · refine z_iconst dX3_isHinge_17 ⟨by decide, by decide⟩ ?_
    exact z_zreturn dX3_isHinge_18 rfl rfl (by decide) ⟨_, rfl, (h.2.2.2.1 q1)⟩
  · refine z_iconst dX3_isHinge_13 ⟨by decide, by decide⟩ ?_
    refine z_goto (tgt := 18) dX3_isHinge_14 (by decide) ?_
    exact z_zreturn dX3_isHinge_18 rfl rfl (by decide) ⟨_, rfl, (h.2.2.2.2 q2)⟩
set_option maxRecDepth 20000 in
theorem V_X3_setHinge {o a : Int} (ho : z_kd o = 3) {μ : z_Mem} {d : Nat} {K : z_Mem → Prop} (h : ((0 : Int) ≤ a ∧ a < 63) ∧ (((0 : Int) ≤ μ o 0 ∧ (0 : Int) ≤ (2 : Int) ^ (a : Int).toNat) ∧ (K (z_st μ o 0 ((((μ o 0 : Int).toNat ||| ((2 : Int) ^ (a : Int).toNat : Int).toNat : Nat)) : Int))))) : z_cn m_X3_setHinge [(2, o), (0, a)] μ d K := by
  show z_R m_X3_setHinge 0 [some (2, o), some (0, a)] [] z_n μ d _
  refine z_aload_n dX3_setHinge_0 rfl ?_
  refine z_dup dX3_setHinge_1 rfl ?_
  refine n_getf (ji := 0) (t := 1) dX3_setHinge_2 zf_X3_9 ho rfl (by decide) rfl ?_
  refine z_lconst1 dX3_setHinge_5 ?_
  refine z_iload_n dX3_setHinge_6 rfl ?_
  refine n_lshl1 dX3_setHinge_7 h.1 ?_
  refine z_lor dX3_setHinge_8 h.2.1.1 h.2.1.2 ?_
  refine n_putJ (ji := 0) dX3_setHinge_9 zf_X3_9 ho rfl (by decide) rfl ?_
  exact z_return dX3_setHinge_12 rfl rfl ⟨rfl, h.2.2⟩
set_option maxRecDepth 20000 in
theorem V_X3_setCut {o a : Int} (ho : z_kd o = 3) {μ : z_Mem} {d : Nat} {K : z_Mem → Prop} (h : ((0 : Int) ≤ a ∧ a < 63) ∧ (((0 : Int) ≤ μ o 0 ∧ (0 : Int) ≤ ((2 : Int) ^ (a : Int).toNat)) ∧ (K (z_st μ o 0 ((((μ o 0 : Int).toNat ^^^ ((μ o 0 : Int).toNat &&& (((2 : Int) ^ (a : Int).toNat) : Int).toNat) : Nat)) : Int))))) : z_cn m_X3_setCut [(2, o), (0, a)] μ d K := by
  show z_R m_X3_setCut 0 [some (2, o), some (0, a)] [] z_n μ d _
  refine z_aload_n dX3_setCut_0 rfl ?_
  refine z_dup dX3_setCut_1 rfl ?_
  refine n_getf (ji := 0) (t := 1) dX3_setCut_2 zf_X3_9 ho rfl (by decide) rfl ?_
  refine z_lconst1 dX3_setCut_5 ?_
  refine z_iload_n dX3_setCut_6 rfl ?_
  refine n_lshl1 dX3_setCut_7 h.1 ?_
  refine z_ldc2 (n := -1) dX3_setCut_8 zc_797 ⟨by decide, by decide⟩ ?_
  refine z_lxorn dX3_setCut_11 rfl ?_
  refine z_landn dX3_setCut_12 (((2 : Int) ^ (a : Int).toNat)) rfl h.2.1.1 h.2.1.2 ?_
  refine n_putJ (ji := 0) dX3_setCut_13 zf_X3_9 ho rfl (by decide) rfl ?_
  exact z_return dX3_setCut_16 rfl rfl ⟨rfl, h.2.2⟩
set_option maxRecDepth 20000 in
theorem V_X3_swap {o a b : Int} (ho : z_kd o = 3) {μ : z_Mem} {d : Nat} {K : z_Mem → Prop} (h : z_cn m_X3_setCut [(2, o), (0, b)] μ d (fun m1 => z_cn m_X3_setHinge [(2, o), (0, a)] m1 d (fun m3 => K m3))) : z_cn m_X3_swap [(2, o), (0, a), (0, b)] μ (d + 1) K := by
  show z_R m_X3_swap 0 [some (2, o), some (0, a), some (0, b)] [] z_n μ (d + 1) _
  refine z_aload_n dX3_swap_0 rfl ?_
  refine z_iload_n dX3_swap_1 rfl ?_
  refine n_vN (as := [(0, b)]) (rest := []) dX3_swap_2 zm_X3_setCut zs_X3_31 ho (by decide) rfl rfl (Nat.le_of_ble_eq_true rfl) (Nat.le_of_ble_eq_true rfl) h (fun m1 h2 => ?_)
  refine z_aload_n dX3_swap_5 rfl ?_
  refine z_iload_n dX3_swap_6 rfl ?_
  refine n_vN (as := [(0, a)]) (rest := []) dX3_swap_7 zm_X3_setHinge zs_X3_35 ho (by decide) rfl rfl (Nat.le_of_ble_eq_true rfl) (Nat.le_of_ble_eq_true rfl) h2 (fun m3 h4 => ?_)
  exact z_return dX3_swap_10 rfl rfl ⟨rfl, h4⟩
set_option maxRecDepth 20000 in
theorem V_X3_howMany {o : Int} (ho : z_kd o = 3) {μ : z_Mem} {d : Nat} {K : Int → z_Mem → Prop} (h : z_ci m_J13_bitCount_95d88 [(1, μ o 0)] μ d (fun x3 m1 => K x3 m1)) : z_ci m_X3_howMany [(2, o)] μ (d + 1) K := by
  show z_R m_X3_howMany 0 [some (2, o)] [] z_n μ (d + 1) _
  refine z_aload_n dX3_howMany_0 rfl ?_
  refine n_getf (ji := 0) (t := 1) dX3_howMany_1 zf_X3_9 ho rfl (by decide) rfl ?_
  refine n_sI (as := [(1, μ o 0)]) (rest := []) dX3_howMany_4 zm_J13_bitCount_95d88 zs_X3_38 rfl rfl (Nat.le_of_ble_eq_true rfl) (Nat.le_of_ble_eq_true rfl) h (fun x3 m1 h2 => ?_)
  exact z_ireturn dX3_howMany_7 rfl rfl ⟨_, rfl, h2⟩
set_option maxRecDepth 20000 in
theorem V_X6_lay {o : Int} (ho : z_kd o = 6) {μ : z_Mem} {d : Nat} {K : z_Mem → Prop} (h : z_cn m_X6_putRoot [(2, o), (0, μ 21 1), (0, μ 6 2)] μ d (fun m1 => z_rn m_X6_lay 14 [some (2, o), some (2, 6), some (2, 21), some (0, 0), none, none] m1 (d + 1) K)) : z_cn m_X6_lay [(2, o), (2, 6), (2, 21)] μ (d + 1) K := by
  show z_R m_X6_lay 0 [some (2, o), some (2, 6), some (2, 21), none, none, none] [] z_n μ (d + 1) _
  refine z_aload_n dX6_lay_0 rfl ?_
  refine z_aload_n dX6_lay_1 rfl ?_
  refine n_getf (ji := 1) (t := 0) dX6_lay_2 zf_X6_34 k_21 rfl (by decide) rfl ?_
  refine z_aload_n dX6_lay_5 rfl ?_
  refine n_getf (ji := 2) (t := 0) dX6_lay_6 zf_X6_39 k_6 rfl (by decide) rfl ?_
  refine n_vN (as := [(0, μ 21 1), (0, μ 6 2)]) (rest := []) dX6_lay_9 zm_X6_putRoot zs_X6_44 ho (by decide) rfl rfl (Nat.le_of_ble_eq_true rfl) (Nat.le_of_ble_eq_true rfl) h (fun m1 h2 => ?_)
  refine z_iconst dX6_lay_12 ⟨by decide, by decide⟩ ?_
  refine n_istore_n (lo' := [some (2, o), some (2, 6), some (2, 21), some (0, 0), none, none]) dX6_lay_13 ⟨Nat.le_of_ble_eq_true rfl, Nat.le_of_ble_eq_true rfl⟩ rfl ?_
  refine z_drop [some (2, o), some (2, 6), some (2, 21), some (0, 0), none, none] ⟨rfl, rfl, rfl, rfl, trivial⟩ ?_
  exact h2
set_option maxRecDepth 20000 in
theorem V_X6_lay_14 {v3 o : Int} (ho : z_kd o = 6) {μ : z_Mem} {d : Nat} {K : z_Mem → Prop} (h : (μ o 6 ≤ v3 → K μ) ∧ (v3 < μ o 6 → (30 ≤ v3 → K μ) ∧ (v3 < 30 → ((0 : Int) ≤ v3 ∧ v3 < 30) ∧ (z_I (4 * (μ (o + 4) v3)) ∧ (z_rn m_X6_lay 42 [some (2, o), some (2, 6), some (2, 21), some (0, v3), some (0, μ (o + 4) v3), some (0, 4 * (μ (o + 4) v3))] μ (d + 1) K))))) : z_rn m_X6_lay 14 [some (2, o), some (2, 6), some (2, 21), some (0, v3), none, none] μ (d + 1) K := by
  show z_R m_X6_lay 14 [some (2, o), some (2, 6), some (2, 21), some (0, v3), none, none] [] z_n μ (d + 1) _
  refine z_iload_n dX6_lay_14 rfl ?_
  refine z_aload_n dX6_lay_15 rfl ?_
  refine n_getf (ji := 6) (t := 0) dX6_lay_16 zf_X6_31 ho rfl (by decide) rfl ?_
  refine z_icmp_ge (tgt := 108) dX6_lay_19 (by decide) (fun q1 => ?_) (fun q2 => ?_)
  · exact z_return dX6_lay_108 rfl rfl ⟨rfl, (h.1 q1)⟩
  · refine z_iload_n dX6_lay_22 rfl ?_
    refine z_bipush dX6_lay_23 (by decide) ?_
    refine z_icmp_ge (tgt := 108) dX6_lay_25 (by decide) (fun q3 => ?_) (fun q4 => ?_)
    · exact z_return dX6_lay_108 rfl rfl ⟨rfl, ((h.2 q2).1 q3)⟩
    · refine z_aload_n dX6_lay_28 rfl ?_
      refine n_getp (ji := 3) dX6_lay_29 zf_X6_21 ho rfl (by decide) rfl (s_6_3_p ho) ?_
      refine z_iload_n dX6_lay_32 rfl ?_
      refine n_iald dX6_lay_33 (s_6_3_k ho) ((h.2 q2).2 q4).1 ?_
      refine n_istore (lo' := [some (2, o), some (2, 6), some (2, 21), some (0, v3), some (0, μ (o + 4) v3), none]) dX6_lay_34 ⟨Nat.le_of_ble_eq_true rfl, Nat.le_of_ble_eq_true rfl⟩ rfl ?_
      refine z_iconst dX6_lay_36 ⟨by decide, by decide⟩ ?_
      refine z_iload dX6_lay_37 rfl ?_
      refine z_imul dX6_lay_39 ((h.2 q2).2 q4).2.1 ?_
      refine n_istore (lo' := [some (2, o), some (2, 6), some (2, 21), some (0, v3), some (0, μ (o + 4) v3), some (0, 4 * (μ (o + 4) v3))]) dX6_lay_40 ⟨Nat.le_of_ble_eq_true rfl, Nat.le_of_ble_eq_true rfl⟩ rfl ?_
      refine z_drop [some (2, o), some (2, 6), some (2, 21), some (0, v3), some (0, μ (o + 4) v3), some (0, 4 * (μ (o + 4) v3))] ⟨rfl, rfl, rfl, rfl, rfl, rfl, trivial⟩ ?_
      exact ((h.2 q2).2 q4).2.2
set_option maxRecDepth 20000 in
theorem V_X6_lay_42 {v3 v4 v5 o : Int} (ho : z_kd o = 6) {μ : z_Mem} {d : Nat} {K : z_Mem → Prop} (h : z_I (4 * v4) ∧ (z_I ((4 * v4) + 4) ∧ (((4 * v4) + 4 ≤ v5 → z_I (v3 + 1) ∧ (z_rn m_X6_lay 14 [some (2, o), some (2, 6), some (2, 21), some (0, v3 + 1), none, none] μ (d + 1) K)) ∧ (v5 < (4 * v4) + 4 → ((0 : Int) ≤ v5 ∧ v5 < 120) ∧ (z_ci m_X3_isHinge [(2, 21), (0, μ 12 v5)] μ d (fun x5 m3 => (x5 = 0 → z_I (v5 + 1) ∧ (z_rn m_X6_lay 42 [some (2, o), some (2, 6), some (2, 21), some (0, v3), some (0, v4), some (0, v5 + 1)] m3 (d + 1) K)) ∧ (¬ x5 = 0 → ((0 : Int) ≤ v5 ∧ v5 < 120) ∧ (z_ci m_X6_holds [(2, o), (0, (m3 11 v5) / 4)] m3 d (fun x10 m8 => (¬ x10 = 0 → z_I (v5 + 1) ∧ (z_rn m_X6_lay 42 [some (2, o), some (2, 6), some (2, 21), some (0, v3), some (0, v4), some (0, v5 + 1)] m8 (d + 1) K)) ∧ (x10 = 0 → ((0 : Int) ≤ v5 ∧ v5 < 120) ∧ (z_cn m_X6_putBehind [(2, o), (0, v5), (0, m8 11 v5)] m8 d (fun m13 => z_I (v5 + 1) ∧ (z_rn m_X6_lay 42 [some (2, o), some (2, 6), some (2, 21), some (0, v3), some (0, v4), some (0, v5 + 1)] m13 (d + 1) K))))))))))))) : z_rn m_X6_lay 42 [some (2, o), some (2, 6), some (2, 21), some (0, v3), some (0, v4), some (0, v5)] μ (d + 1) K := by
  show z_R m_X6_lay 42 [some (2, o), some (2, 6), some (2, 21), some (0, v3), some (0, v4), some (0, v5)] [] z_n μ (d + 1) _
  refine z_iload dX6_lay_42 rfl ?_
  refine z_iconst dX6_lay_44 ⟨by decide, by decide⟩ ?_
  refine z_iload dX6_lay_45 rfl ?_
  refine z_imul dX6_lay_47 h.1 ?_
  refine z_iconst dX6_lay_48 ⟨by decide, by decide⟩ ?_
  refine z_iadd dX6_lay_49 h.2.1 ?_
  refine z_icmp_ge (tgt := 102) dX6_lay_50 (by decide) (fun q1 => ?_) (fun q2 => ?_)
  · refine n_iinc (lo' := [some (2, o), some (2, 6), some (2, 21), some (0, v3 + 1), some (0, v4), some (0, v5)]) dX6_lay_102 rfl (by decide) (h.2.2.1 q1).1 rfl ?_
    refine z_goto (tgt := 14) dX6_lay_105 (by decide) ?_
    refine z_drop [some (2, o), some (2, 6), some (2, 21), some (0, v3 + 1), none, none] ⟨rfl, rfl, rfl, rfl, trivial⟩ ?_
    exact (h.2.2.1 q1).2
  · refine z_aload_n dX6_lay_53 rfl ?_
    refine z_aload_n dX6_lay_54 rfl ?_
    refine n_getp (ji := 7) dX6_lay_55 zf_X6_48 k_6 rfl (by decide) rfl p_6_7 ?_
    refine z_iload dX6_lay_58 rfl ?_
    refine n_iald dX6_lay_60 k_12 (h.2.2.2 q2).1 ?_
    refine n_vI (as := [(0, μ 12 v5)]) (rest := []) dX6_lay_61 zm_X3_isHinge zs_X6_51 k_21 (by decide) rfl rfl (Nat.le_of_ble_eq_true rfl) (Nat.le_of_ble_eq_true rfl) (h.2.2.2 q2).2 (fun x5 m3 h4 => ?_)
    refine z_if_eq (tgt := 96) dX6_lay_64 (by decide) (fun q6 => ?_) (fun q7 => ?_)
    · refine n_iinc (lo' := [some (2, o), some (2, 6), some (2, 21), some (0, v3), some (0, v4), some (0, v5 + 1)]) dX6_lay_96 rfl (by decide) (h4.1 q6).1 rfl ?_
      refine z_goto (tgt := 42) dX6_lay_99 (by decide) ?_
      refine z_drop [some (2, o), some (2, 6), some (2, 21), some (0, v3), some (0, v4), some (0, v5 + 1)] ⟨rfl, rfl, rfl, rfl, rfl, rfl, trivial⟩ ?_
      exact (h4.1 q6).2
    · refine z_aload_n dX6_lay_67 rfl ?_
      refine z_aload_n dX6_lay_68 rfl ?_
      refine n_getp (ji := 6) dX6_lay_69 zf_X6_55 k_6 rfl (by decide) rfl p_6_6 ?_
      refine z_iload dX6_lay_72 rfl ?_
      refine n_iald dX6_lay_74 k_11 (h4.2 q7).1 ?_
      refine z_iconst dX6_lay_75 ⟨by decide, by decide⟩ ?_
      refine n_ishr (m := 4) dX6_lay_76 (by decide) (by decide) ?_
      refine n_vI (as := [(0, (m3 11 v5) / 4)]) (rest := []) dX6_lay_77 zm_X6_holds zs_X6_58 ho (by decide) rfl rfl (Nat.le_of_ble_eq_true rfl) (Nat.le_of_ble_eq_true rfl) (h4.2 q7).2 (fun x10 m8 h9 => ?_)
      refine z_if_ne (tgt := 96) dX6_lay_80 (by decide) (fun q11 => ?_) (fun q12 => ?_)
      · refine n_iinc (lo' := [some (2, o), some (2, 6), some (2, 21), some (0, v3), some (0, v4), some (0, v5 + 1)]) dX6_lay_96 rfl (by decide) (h9.1 q11).1 rfl ?_
        refine z_goto (tgt := 42) dX6_lay_99 (by decide) ?_
        refine z_drop [some (2, o), some (2, 6), some (2, 21), some (0, v3), some (0, v4), some (0, v5 + 1)] ⟨rfl, rfl, rfl, rfl, rfl, rfl, trivial⟩ ?_
        exact (h9.1 q11).2
      · refine z_aload_n dX6_lay_83 rfl ?_
        refine z_iload dX6_lay_84 rfl ?_
        refine z_aload_n dX6_lay_86 rfl ?_
        refine n_getp (ji := 6) dX6_lay_87 zf_X6_55 k_6 rfl (by decide) rfl p_6_6 ?_
        refine z_iload dX6_lay_90 rfl ?_
        refine n_iald dX6_lay_92 k_11 (h9.2 q12).1 ?_
        refine n_vN (as := [(0, v5), (0, m8 11 v5)]) (rest := []) dX6_lay_93 zm_X6_putBehind zs_X6_61 ho (by decide) rfl rfl (Nat.le_of_ble_eq_true rfl) (Nat.le_of_ble_eq_true rfl) (h9.2 q12).2 (fun m13 h14 => ?_)
        refine n_iinc (lo' := [some (2, o), some (2, 6), some (2, 21), some (0, v3), some (0, v4), some (0, v5 + 1)]) dX6_lay_96 rfl (by decide) h14.1 rfl ?_
        refine z_goto (tgt := 42) dX6_lay_99 (by decide) ?_
        refine z_drop [some (2, o), some (2, 6), some (2, 21), some (0, v3), some (0, v4), some (0, v5 + 1)] ⟨rfl, rfl, rfl, rfl, rfl, rfl, trivial⟩ ?_
        exact h14.2
set_option maxRecDepth 20000 in
theorem V_X6_putRoot {o a b : Int} (ho : z_kd o = 6) {μ : z_Mem} {d : Nat} {K : z_Mem → Prop} (h : (a < 0 → K (z_st (z_st μ o 5 0) o 6 0)) ∧ (0 ≤ a → (b ≤ a → K (z_st (z_st μ o 5 0) o 6 0)) ∧ (a < b → z_cn m_X6_add [(2, o), (0, a), (0, (-1))] (z_st (z_st μ o 5 0) o 6 0) d (fun m5 => ((0 : Int) ≤ a ∧ a < 30) ∧ (((0 : Int) ≤ a ∧ a < 30) ∧ (((0 : Int) ≤ a ∧ a < 30) ∧ (K (z_st (z_st (z_st m5 (o + 1) a 0) (o + 2) a 0) (o + 3) a 0)))))))) : z_cn m_X6_putRoot [(2, o), (0, a), (0, b)] μ (d + 1) K := by
  show z_R m_X6_putRoot 0 [some (2, o), some (0, a), some (0, b)] [] z_n μ (d + 1) _
  refine z_aload_n dX6_putRoot_0 rfl ?_
  refine z_iconst dX6_putRoot_1 ⟨by decide, by decide⟩ ?_
  refine n_putI (ji := 5) dX6_putRoot_2 zf_X6_27 ho rfl (by decide) rfl ?_
  refine z_aload_n dX6_putRoot_5 rfl ?_
  refine z_iconst dX6_putRoot_6 ⟨by decide, by decide⟩ ?_
  refine n_putI (ji := 6) dX6_putRoot_7 zf_X6_31 ho rfl (by decide) rfl ?_
  refine z_iload_n dX6_putRoot_10 rfl ?_
  refine z_if_lt (tgt := 46) dX6_putRoot_11 (by decide) (fun q1 => ?_) (fun q2 => ?_)
  · exact z_return dX6_putRoot_46 rfl rfl ⟨rfl, (h.1 q1)⟩
  · refine z_iload_n dX6_putRoot_14 rfl ?_
    refine z_iload_n dX6_putRoot_15 rfl ?_
    refine z_icmp_ge (tgt := 46) dX6_putRoot_16 (by decide) (fun q3 => ?_) (fun q4 => ?_)
    · exact z_return dX6_putRoot_46 rfl rfl ⟨rfl, ((h.2 q2).1 q3)⟩
    · refine z_aload_n dX6_putRoot_19 rfl ?_
      refine z_iload_n dX6_putRoot_20 rfl ?_
      refine z_iconst dX6_putRoot_21 ⟨by decide, by decide⟩ ?_
      refine n_vN (as := [(0, a), (0, (-1))]) (rest := []) dX6_putRoot_22 zm_X6_add zs_X6_64 ho (by decide) rfl rfl (Nat.le_of_ble_eq_true rfl) (Nat.le_of_ble_eq_true rfl) ((h.2 q2).2 q4) (fun m5 h6 => ?_)
      refine z_aload_n dX6_putRoot_25 rfl ?_
      refine n_getp (ji := 0) dX6_putRoot_26 zf_X6_9 ho rfl (by decide) rfl (s_6_0_p ho) ?_
      refine z_iload_n dX6_putRoot_29 rfl ?_
      refine z_iconst dX6_putRoot_30 ⟨by decide, by decide⟩ ?_
      refine n_iast dX6_putRoot_31 (s_6_0_k ho) h6.1 ?_
      refine z_aload_n dX6_putRoot_32 rfl ?_
      refine n_getp (ji := 1) dX6_putRoot_33 zf_X6_15 ho rfl (by decide) rfl (s_6_1_p ho) ?_
      refine z_iload_n dX6_putRoot_36 rfl ?_
      refine z_iconst dX6_putRoot_37 ⟨by decide, by decide⟩ ?_
      refine n_iast dX6_putRoot_38 (s_6_1_k ho) h6.2.1 ?_
      refine z_aload_n dX6_putRoot_39 rfl ?_
      refine n_getp (ji := 2) dX6_putRoot_40 zf_X6_18 ho rfl (by decide) rfl (s_6_2_p ho) ?_
      refine z_iload_n dX6_putRoot_43 rfl ?_
      refine z_iconst dX6_putRoot_44 ⟨by decide, by decide⟩ ?_
      refine n_iast dX6_putRoot_45 (s_6_2_k ho) h6.2.2.1 ?_
      exact z_return dX6_putRoot_46 rfl rfl ⟨rfl, h6.2.2.2⟩
set_option maxRecDepth 20000 in
theorem V_X6_putBehind {o a b : Int} (ho : z_kd o = 6) {μ : z_Mem} {d : Nat} {K : z_Mem → Prop} (h : z_ci m_X6_xBehind [(2, o), (0, a)] μ d (fun x3 m1 => ((0 : Int) ≤ b / 4 ∧ b / 4 < 30) ∧ (z_ci m_X6_yBehind [(2, o), (0, a)] (z_st m1 (o + 1) (b / 4) x3) d (fun x6 m4 => ((0 : Int) ≤ b / 4 ∧ b / 4 < 30) ∧ (z_ci m_X6_turnBehind [(2, o), (0, a), (0, b)] (z_st m4 (o + 2) (b / 4) x6) d (fun x9 m7 => ((0 : Int) ≤ b / 4 ∧ b / 4 < 30) ∧ (z_cn m_X6_add [(2, o), (0, b / 4), (0, a)] (z_st m7 (o + 3) (b / 4) x9) d (fun m10 => K m10)))))))) : z_cn m_X6_putBehind [(2, o), (0, a), (0, b)] μ (d + 1) K := by
  show z_R m_X6_putBehind 0 [some (2, o), some (0, a), some (0, b), none] [] z_n μ (d + 1) _
  refine z_iload_n dX6_putBehind_0 rfl ?_
  refine z_iconst dX6_putBehind_1 ⟨by decide, by decide⟩ ?_
  refine n_ishr (m := 4) dX6_putBehind_2 (by decide) (by decide) ?_
  refine n_istore_n (lo' := [some (2, o), some (0, a), some (0, b), some (0, b / 4)]) dX6_putBehind_3 ⟨Nat.le_of_ble_eq_true rfl, Nat.le_of_ble_eq_true rfl⟩ rfl ?_
  refine z_aload_n dX6_putBehind_4 rfl ?_
  refine n_getp (ji := 0) dX6_putBehind_5 zf_X6_9 ho rfl (by decide) rfl (s_6_0_p ho) ?_
  refine z_iload_n dX6_putBehind_8 rfl ?_
  refine z_aload_n dX6_putBehind_9 rfl ?_
  refine z_iload_n dX6_putBehind_10 rfl ?_
  refine n_vI (as := [(0, a)]) (rest := [(0, b / 4), (2, (o + 1))]) dX6_putBehind_11 zm_X6_xBehind zs_X6_67 ho (by decide) rfl rfl (Nat.le_of_ble_eq_true rfl) (Nat.le_of_ble_eq_true rfl) h (fun x3 m1 h2 => ?_)
  refine n_iast dX6_putBehind_14 (s_6_0_k ho) h2.1 ?_
  refine z_aload_n dX6_putBehind_15 rfl ?_
  refine n_getp (ji := 1) dX6_putBehind_16 zf_X6_15 ho rfl (by decide) rfl (s_6_1_p ho) ?_
  refine z_iload_n dX6_putBehind_19 rfl ?_
  refine z_aload_n dX6_putBehind_20 rfl ?_
  refine z_iload_n dX6_putBehind_21 rfl ?_
  refine n_vI (as := [(0, a)]) (rest := [(0, b / 4), (2, (o + 2))]) dX6_putBehind_22 zm_X6_yBehind zs_X6_71 ho (by decide) rfl rfl (Nat.le_of_ble_eq_true rfl) (Nat.le_of_ble_eq_true rfl) h2.2 (fun x6 m4 h5 => ?_)
  refine n_iast dX6_putBehind_25 (s_6_1_k ho) h5.1 ?_
  refine z_aload_n dX6_putBehind_26 rfl ?_
  refine n_getp (ji := 2) dX6_putBehind_27 zf_X6_18 ho rfl (by decide) rfl (s_6_2_p ho) ?_
  refine z_iload_n dX6_putBehind_30 rfl ?_
  refine z_aload_n dX6_putBehind_31 rfl ?_
  refine z_iload_n dX6_putBehind_32 rfl ?_
  refine z_iload_n dX6_putBehind_33 rfl ?_
  refine n_vI (as := [(0, a), (0, b)]) (rest := [(0, b / 4), (2, (o + 3))]) dX6_putBehind_34 zm_X6_turnBehind zs_X6_74 ho (by decide) rfl rfl (Nat.le_of_ble_eq_true rfl) (Nat.le_of_ble_eq_true rfl) h5.2 (fun x9 m7 h8 => ?_)
  refine n_iast dX6_putBehind_37 (s_6_2_k ho) h8.1 ?_
  refine z_aload_n dX6_putBehind_38 rfl ?_
  refine z_iload_n dX6_putBehind_39 rfl ?_
  refine z_iload_n dX6_putBehind_40 rfl ?_
  refine n_vN (as := [(0, b / 4), (0, a)]) (rest := []) dX6_putBehind_41 zm_X6_add zs_X6_64 ho (by decide) rfl rfl (Nat.le_of_ble_eq_true rfl) (Nat.le_of_ble_eq_true rfl) h8.2 (fun m10 h11 => ?_)
  exact z_return dX6_putBehind_44 rfl rfl ⟨rfl, h11⟩
set_option maxRecDepth 20000 in
theorem V_X6_add {o a b : Int} (ho : z_kd o = 6) {μ : z_Mem} {d : Nat} {K : z_Mem → Prop} (h : ((0 : Int) ≤ a ∧ a < 30) ∧ (((0 : Int) ≤ a ∧ a < 31) ∧ (((0 : Int) ≤ (z_st μ (o + 5) a b) o 5 ∧ (0 : Int) ≤ (2 : Int) ^ (a : Int).toNat) ∧ ((30 ≤ (z_st (z_st μ (o + 5) a b) o 5 (((((z_st μ (o + 5) a b) o 5 : Int).toNat ||| ((2 : Int) ^ (a : Int).toNat : Int).toNat : Nat)) : Int)) o 6 → K (z_st (z_st μ (o + 5) a b) o 5 (((((z_st μ (o + 5) a b) o 5 : Int).toNat ||| ((2 : Int) ^ (a : Int).toNat : Int).toNat : Nat)) : Int))) ∧ ((z_st (z_st μ (o + 5) a b) o 5 (((((z_st μ (o + 5) a b) o 5 : Int).toNat ||| ((2 : Int) ^ (a : Int).toNat : Int).toNat : Nat)) : Int)) o 6 < 30 → ((0 : Int) ≤ (z_st (z_st μ (o + 5) a b) o 5 (((((z_st μ (o + 5) a b) o 5 : Int).toNat ||| ((2 : Int) ^ (a : Int).toNat : Int).toNat : Nat)) : Int)) o 6 ∧ (z_st (z_st μ (o + 5) a b) o 5 (((((z_st μ (o + 5) a b) o 5 : Int).toNat ||| ((2 : Int) ^ (a : Int).toNat : Int).toNat : Nat)) : Int)) o 6 < 30) ∧ (z_I (((z_st (z_st (z_st μ (o + 5) a b) o 5 (((((z_st μ (o + 5) a b) o 5 : Int).toNat ||| ((2 : Int) ^ (a : Int).toNat : Int).toNat : Nat)) : Int)) (o + 4) ((z_st (z_st μ (o + 5) a b) o 5 (((((z_st μ (o + 5) a b) o 5 : Int).toNat ||| ((2 : Int) ^ (a : Int).toNat : Int).toNat : Nat)) : Int)) o 6) a) o 6) + 1) ∧ (K (z_st (z_st (z_st (z_st μ (o + 5) a b) o 5 (((((z_st μ (o + 5) a b) o 5 : Int).toNat ||| ((2 : Int) ^ (a : Int).toNat : Int).toNat : Nat)) : Int)) (o + 4) ((z_st (z_st μ (o + 5) a b) o 5 (((((z_st μ (o + 5) a b) o 5 : Int).toNat ||| ((2 : Int) ^ (a : Int).toNat : Int).toNat : Nat)) : Int)) o 6) a) o 6 (((z_st (z_st (z_st μ (o + 5) a b) o 5 (((((z_st μ (o + 5) a b) o 5 : Int).toNat ||| ((2 : Int) ^ (a : Int).toNat : Int).toNat : Nat)) : Int)) (o + 4) ((z_st (z_st μ (o + 5) a b) o 5 (((((z_st μ (o + 5) a b) o 5 : Int).toNat ||| ((2 : Int) ^ (a : Int).toNat : Int).toNat : Nat)) : Int)) o 6) a) o 6) + 1))))))))) : z_cn m_X6_add [(2, o), (0, a), (0, b)] μ d K := by
  show z_R m_X6_add 0 [some (2, o), some (0, a), some (0, b)] [] z_n μ d _
  refine z_aload_n dX6_add_0 rfl ?_
  refine n_getp (ji := 4) dX6_add_1 zf_X6_24 ho rfl (by decide) rfl (s_6_4_p ho) ?_
  refine z_iload_n dX6_add_4 rfl ?_
  refine z_iload_n dX6_add_5 rfl ?_
  refine n_iast dX6_add_6 (s_6_4_k ho) h.1 ?_
  refine z_aload_n dX6_add_7 rfl ?_
  refine z_dup dX6_add_8 rfl ?_
  refine n_getf (ji := 5) (t := 0) dX6_add_9 zf_X6_27 ho rfl (by decide) rfl ?_
  refine z_iconst dX6_add_12 ⟨by decide, by decide⟩ ?_
  refine z_iload_n dX6_add_13 rfl ?_
  refine n_ishl1 dX6_add_14 h.2.1 ?_
  refine z_ior dX6_add_15 h.2.2.1.1 h.2.2.1.2 ?_
  refine n_putI (ji := 5) dX6_add_16 zf_X6_27 ho rfl (by decide) rfl ?_
  refine z_aload_n dX6_add_19 rfl ?_
  refine n_getf (ji := 6) (t := 0) dX6_add_20 zf_X6_31 ho rfl (by decide) rfl ?_
  refine z_bipush dX6_add_23 (by decide) ?_
  refine z_icmp_ge (tgt := 48) dX6_add_25 (by decide) (fun q1 => ?_) (fun q2 => ?_)
  · exact z_return dX6_add_48 rfl rfl ⟨rfl, (h.2.2.2.1 q1)⟩
  · refine z_aload_n dX6_add_28 rfl ?_
    refine n_getp (ji := 3) dX6_add_29 zf_X6_21 ho rfl (by decide) rfl (s_6_3_p ho) ?_
    refine z_aload_n dX6_add_32 rfl ?_
    refine n_getf (ji := 6) (t := 0) dX6_add_33 zf_X6_31 ho rfl (by decide) rfl ?_
    refine z_iload_n dX6_add_36 rfl ?_
    refine n_iast dX6_add_37 (s_6_3_k ho) (h.2.2.2.2 q2).1 ?_
    refine z_aload_n dX6_add_38 rfl ?_
    refine z_dup dX6_add_39 rfl ?_
    refine n_getf (ji := 6) (t := 0) dX6_add_40 zf_X6_31 ho rfl (by decide) rfl ?_
    refine z_iconst dX6_add_43 ⟨by decide, by decide⟩ ?_
    refine z_iadd dX6_add_44 (h.2.2.2.2 q2).2.1 ?_
    refine n_putI (ji := 6) dX6_add_45 zf_X6_31 ho rfl (by decide) rfl ?_
    exact z_return dX6_add_48 rfl rfl ⟨rfl, (h.2.2.2.2 q2).2.2⟩
set_option maxRecDepth 20000 in
theorem V_X6_takeLast {o : Int} (ho : z_kd o = 6) {μ : z_Mem} {d : Nat} {K : z_Mem → Prop} (h : (μ o 6 ≤ 0 → K μ) ∧ (0 < μ o 6 → z_I ((μ o 6) - 1) ∧ (((0 : Int) ≤ (z_st μ o 6 ((μ o 6) - 1)) o 6 ∧ (z_st μ o 6 ((μ o 6) - 1)) o 6 < 30) ∧ (((0 : Int) ≤ (z_st μ o 6 ((μ o 6) - 1)) (o + 4) ((z_st μ o 6 ((μ o 6) - 1)) o 6) ∧ (z_st μ o 6 ((μ o 6) - 1)) (o + 4) ((z_st μ o 6 ((μ o 6) - 1)) o 6) < 31) ∧ (((0 : Int) ≤ (z_st μ o 6 ((μ o 6) - 1)) o 5 ∧ (0 : Int) ≤ ((2 : Int) ^ ((z_st μ o 6 ((μ o 6) - 1)) (o + 4) ((z_st μ o 6 ((μ o 6) - 1)) o 6) : Int).toNat)) ∧ (K (z_st (z_st μ o 6 ((μ o 6) - 1)) o 5 (((((z_st μ o 6 ((μ o 6) - 1)) o 5 : Int).toNat ^^^ (((z_st μ o 6 ((μ o 6) - 1)) o 5 : Int).toNat &&& (((2 : Int) ^ ((z_st μ o 6 ((μ o 6) - 1)) (o + 4) ((z_st μ o 6 ((μ o 6) - 1)) o 6) : Int).toNat) : Int).toNat) : Nat)) : Int)))))))) : z_cn m_X6_takeLast [(2, o)] μ d K := by
  show z_R m_X6_takeLast 0 [some (2, o)] [] z_n μ d _
  refine z_aload_n dX6_takeLast_0 rfl ?_
  refine n_getf (ji := 6) (t := 0) dX6_takeLast_1 zf_X6_31 ho rfl (by decide) rfl ?_
  refine z_if_le (tgt := 39) dX6_takeLast_4 (by decide) (fun q1 => ?_) (fun q2 => ?_)
  · exact z_return dX6_takeLast_39 rfl rfl ⟨rfl, (h.1 q1)⟩
  · refine z_aload_n dX6_takeLast_7 rfl ?_
    refine z_dup dX6_takeLast_8 rfl ?_
    refine n_getf (ji := 6) (t := 0) dX6_takeLast_9 zf_X6_31 ho rfl (by decide) rfl ?_
    refine z_iconst dX6_takeLast_12 ⟨by decide, by decide⟩ ?_
    refine z_isub dX6_takeLast_13 (h.2 q2).1 ?_
    refine n_putI (ji := 6) dX6_takeLast_14 zf_X6_31 ho rfl (by decide) rfl ?_
    refine z_aload_n dX6_takeLast_17 rfl ?_
    refine z_dup dX6_takeLast_18 rfl ?_
    refine n_getf (ji := 5) (t := 0) dX6_takeLast_19 zf_X6_27 ho rfl (by decide) rfl ?_
    refine z_iconst dX6_takeLast_22 ⟨by decide, by decide⟩ ?_
    refine z_aload_n dX6_takeLast_23 rfl ?_
    refine n_getp (ji := 3) dX6_takeLast_24 zf_X6_21 ho rfl (by decide) rfl (s_6_3_p ho) ?_
    refine z_aload_n dX6_takeLast_27 rfl ?_
    refine n_getf (ji := 6) (t := 0) dX6_takeLast_28 zf_X6_31 ho rfl (by decide) rfl ?_
    refine n_iald dX6_takeLast_31 (s_6_3_k ho) (h.2 q2).2.1 ?_
    refine n_ishl1 dX6_takeLast_32 (h.2 q2).2.2.1 ?_
    refine z_iconst dX6_takeLast_33 ⟨by decide, by decide⟩ ?_
    refine z_ixorn dX6_takeLast_34 rfl ?_
    refine z_iandn dX6_takeLast_35 (((2 : Int) ^ ((z_st μ o 6 ((μ o 6) - 1)) (o + 4) ((z_st μ o 6 ((μ o 6) - 1)) o 6) : Int).toNat)) rfl (h.2 q2).2.2.2.1.1 (h.2 q2).2.2.2.1.2 ?_
    refine n_putI (ji := 5) dX6_takeLast_36 zf_X6_27 ho rfl (by decide) rfl ?_
    exact z_return dX6_takeLast_39 rfl rfl ⟨rfl, (h.2 q2).2.2.2.2⟩
set_option maxRecDepth 20000 in
theorem V_X6_look {o a : Int} (ho : z_kd o = 6) {μ : z_Mem} {d : Nat} {K : Int → z_Mem → Prop} (h : ((0 : Int) ≤ a / 4 ∧ a / 4 < 30) ∧ (z_I ((a % 4) + (μ (o + 3) (a / 4))) ∧ (K (((a % 4) + (μ (o + 3) (a / 4))) % 4) μ))) : z_ci m_X6_look [(2, o), (0, a)] μ d K := by
  show z_R m_X6_look 0 [some (2, o), some (0, a)] [] z_n μ d _
  refine z_iload_n dX6_look_0 rfl ?_
  refine z_iconst dX6_look_1 ⟨by decide, by decide⟩ ?_
  refine n_iandm (k := 2) (m := 4) dX6_look_2 (by decide) (by decide) ?_
  refine z_aload_n dX6_look_3 rfl ?_
  refine n_getp (ji := 2) dX6_look_4 zf_X6_18 ho rfl (by decide) rfl (s_6_2_p ho) ?_
  refine z_iload_n dX6_look_7 rfl ?_
  refine z_iconst dX6_look_8 ⟨by decide, by decide⟩ ?_
  refine n_ishr (m := 4) dX6_look_9 (by decide) (by decide) ?_
  refine n_iald dX6_look_10 (s_6_2_k ho) h.1 ?_
  refine z_iadd dX6_look_11 h.2.1 ?_
  refine z_iconst dX6_look_12 ⟨by decide, by decide⟩ ?_
  refine n_iandm (k := 2) (m := 4) dX6_look_13 (by decide) (by decide) ?_
  exact z_ireturn dX6_look_14 rfl rfl ⟨_, rfl, h.2.2⟩
set_option maxRecDepth 20000 in
theorem V_X6_xBehind {o a : Int} (ho : z_kd o = 6) {μ : z_Mem} {d : Nat} {K : Int → z_Mem → Prop} (h : ((0 : Int) ≤ a / 4 ∧ a / 4 < 30) ∧ (z_ci m_X6_look [(2, o), (0, a)] μ d (fun x3 m1 => ((0 : Int) ≤ x3 ∧ x3 < 4) ∧ (z_I ((μ (o + 1) (a / 4)) + (z_S 1 x3)) ∧ (K ((μ (o + 1) (a / 4)) + (z_S 1 x3)) m1))))) : z_ci m_X6_xBehind [(2, o), (0, a)] μ (d + 1) K := by
  show z_R m_X6_xBehind 0 [some (2, o), some (0, a)] [] z_n μ (d + 1) _
  refine z_aload_n dX6_xBehind_0 rfl ?_
  refine n_getp (ji := 0) dX6_xBehind_1 zf_X6_9 ho rfl (by decide) rfl (s_6_0_p ho) ?_
  refine z_iload_n dX6_xBehind_4 rfl ?_
  refine z_iconst dX6_xBehind_5 ⟨by decide, by decide⟩ ?_
  refine n_ishr (m := 4) dX6_xBehind_6 (by decide) (by decide) ?_
  refine n_iald dX6_xBehind_7 (s_6_0_k ho) h.1 ?_
  refine n_getsN (j := 1) (oj := 1002) dX6_xBehind_8 rfl zq_728 (by decide) ?_
  refine z_aload_n dX6_xBehind_11 rfl ?_
  refine z_iload_n dX6_xBehind_12 rfl ?_
  refine n_vI (as := [(0, a)]) (rest := [(2, 1002), (0, μ (o + 1) (a / 4))]) dX6_xBehind_13 zm_X6_look zs_X6_81 ho (by decide) rfl rfl (Nat.le_of_ble_eq_true rfl) (Nat.le_of_ble_eq_true rfl) h.2 (fun x3 m1 h2 => ?_)
  refine n_sald (j := 1) (L := 4) dX6_xBehind_16 rfl (by decide) (by decide) h2.1 ?_
  refine z_iadd dX6_xBehind_17 h2.2.1 ?_
  exact z_ireturn dX6_xBehind_18 rfl rfl ⟨_, rfl, h2.2.2⟩
set_option maxRecDepth 20000 in
theorem V_X6_yBehind {o a : Int} (ho : z_kd o = 6) {μ : z_Mem} {d : Nat} {K : Int → z_Mem → Prop} (h : ((0 : Int) ≤ a / 4 ∧ a / 4 < 30) ∧ (z_ci m_X6_look [(2, o), (0, a)] μ d (fun x3 m1 => ((0 : Int) ≤ x3 ∧ x3 < 4) ∧ (z_I ((μ (o + 2) (a / 4)) + (z_S 2 x3)) ∧ (K ((μ (o + 2) (a / 4)) + (z_S 2 x3)) m1))))) : z_ci m_X6_yBehind [(2, o), (0, a)] μ (d + 1) K := by
  show z_R m_X6_yBehind 0 [some (2, o), some (0, a)] [] z_n μ (d + 1) _
  refine z_aload_n dX6_yBehind_0 rfl ?_
  refine n_getp (ji := 1) dX6_yBehind_1 zf_X6_15 ho rfl (by decide) rfl (s_6_1_p ho) ?_
  refine z_iload_n dX6_yBehind_4 rfl ?_
  refine z_iconst dX6_yBehind_5 ⟨by decide, by decide⟩ ?_
  refine n_ishr (m := 4) dX6_yBehind_6 (by decide) (by decide) ?_
  refine n_iald dX6_yBehind_7 (s_6_1_k ho) h.1 ?_
  refine n_getsN (j := 2) (oj := 1003) dX6_yBehind_8 rfl zq_738 (by decide) ?_
  refine z_aload_n dX6_yBehind_11 rfl ?_
  refine z_iload_n dX6_yBehind_12 rfl ?_
  refine n_vI (as := [(0, a)]) (rest := [(2, 1003), (0, μ (o + 2) (a / 4))]) dX6_yBehind_13 zm_X6_look zs_X6_81 ho (by decide) rfl rfl (Nat.le_of_ble_eq_true rfl) (Nat.le_of_ble_eq_true rfl) h.2 (fun x3 m1 h2 => ?_)
  refine n_sald (j := 2) (L := 4) dX6_yBehind_16 rfl (by decide) (by decide) h2.1 ?_
  refine z_iadd dX6_yBehind_17 h2.2.1 ?_
  exact z_ireturn dX6_yBehind_18 rfl rfl ⟨_, rfl, h2.2.2⟩
set_option maxRecDepth 20000 in
theorem V_X6_turnBehind {o a b : Int} (ho : z_kd o = 6) {μ : z_Mem} {d : Nat} {K : Int → z_Mem → Prop} (h : z_ci m_X6_look [(2, o), (0, a)] μ d (fun x3 m1 => z_I (x3 + 2) ∧ (z_I ((x3 + 2) - (b % 4)) ∧ (K (((x3 + 2) - (b % 4)) % 4) m1)))) : z_ci m_X6_turnBehind [(2, o), (0, a), (0, b)] μ (d + 1) K := by
  show z_R m_X6_turnBehind 0 [some (2, o), some (0, a), some (0, b)] [] z_n μ (d + 1) _
  refine z_aload_n dX6_turnBehind_0 rfl ?_
  refine z_iload_n dX6_turnBehind_1 rfl ?_
  refine n_vI (as := [(0, a)]) (rest := []) dX6_turnBehind_2 zm_X6_look zs_X6_81 ho (by decide) rfl rfl (Nat.le_of_ble_eq_true rfl) (Nat.le_of_ble_eq_true rfl) h (fun x3 m1 h2 => ?_)
  refine z_iconst dX6_turnBehind_5 ⟨by decide, by decide⟩ ?_
  refine z_iadd dX6_turnBehind_6 h2.1 ?_
  refine z_iload_n dX6_turnBehind_7 rfl ?_
  refine z_iconst dX6_turnBehind_8 ⟨by decide, by decide⟩ ?_
  refine n_iandm (k := 2) (m := 4) dX6_turnBehind_9 (by decide) (by decide) ?_
  refine z_isub dX6_turnBehind_10 h2.2.1 ?_
  refine z_iconst dX6_turnBehind_11 ⟨by decide, by decide⟩ ?_
  refine n_iandm (k := 2) (m := 4) dX6_turnBehind_12 (by decide) (by decide) ?_
  exact z_ireturn dX6_turnBehind_13 rfl rfl ⟨_, rfl, h2.2.2⟩
set_option maxRecDepth 20000 in
theorem V_X6_holds {o a : Int} (ho : z_kd o = 6) {μ : z_Mem} {d : Nat} {K : Int → z_Mem → Prop} (h : ((0 : Int) ≤ a ∧ a < 32) ∧ (((0 : Int) ≤ μ o 5) ∧ ((((μ o 5) / 2 ^ (a : Int).toNat) % 2 = 0 → K 0 μ) ∧ (¬ ((μ o 5) / 2 ^ (a : Int).toNat) % 2 = 0 → K 1 μ)))) : z_ci m_X6_holds [(2, o), (0, a)] μ d K := by
  show z_R m_X6_holds 0 [some (2, o), some (0, a)] [] z_n μ d _
  refine z_aload_n dX6_holds_0 rfl ?_
  refine n_getf (ji := 5) (t := 0) dX6_holds_1 zf_X6_27 ho rfl (by decide) rfl ?_
  refine z_iload_n dX6_holds_4 rfl ?_
  refine n_iushr dX6_holds_5 h.1 h.2.1 ?_
  refine z_iconst dX6_holds_6 ⟨by decide, by decide⟩ ?_
  refine n_iandm (k := 1) (m := 2) dX6_holds_7 (by decide) (by decide) ?_
  refine z_if_eq (tgt := 15) dX6_holds_8 (by decide) (fun q1 => ?_) (fun q2 => ?_)
  · refine z_iconst dX6_holds_15 ⟨by decide, by decide⟩ ?_
    exact z_zreturn dX6_holds_16 rfl rfl (by decide) ⟨_, rfl, (h.2.2.1 q1)⟩
  · refine z_iconst dX6_holds_11 ⟨by decide, by decide⟩ ?_
    refine z_goto (tgt := 16) dX6_holds_12 (by decide) ?_
    exact z_zreturn dX6_holds_16 rfl rfl (by decide) ⟨_, rfl, (h.2.2.2 q2)⟩
set_option maxRecDepth 20000 in
theorem V_X6_isTaken {o a b : Int} (ho : z_kd o = 6) {μ : z_Mem} {d : Nat} {K : Int → z_Mem → Prop} (h : z_ri m_X6_isTaken 2 [some (2, o), some (0, a), some (0, b), some (0, 0)] μ d K) : z_ci m_X6_isTaken [(2, o), (0, a), (0, b)] μ d K := by
  show z_R m_X6_isTaken 0 [some (2, o), some (0, a), some (0, b), none] [] z_n μ d _
  refine z_iconst dX6_isTaken_0 ⟨by decide, by decide⟩ ?_
  refine n_istore_n (lo' := [some (2, o), some (0, a), some (0, b), some (0, 0)]) dX6_isTaken_1 ⟨Nat.le_of_ble_eq_true rfl, Nat.le_of_ble_eq_true rfl⟩ rfl ?_
  refine z_drop [some (2, o), some (0, a), some (0, b), some (0, 0)] ⟨rfl, rfl, rfl, rfl, trivial⟩ ?_
  exact h
set_option maxRecDepth 20000 in
theorem V_X6_isTaken_2 {v1 v2 v3 o : Int} (ho : z_kd o = 6) {μ : z_Mem} {d : Nat} {K : Int → z_Mem → Prop} (h : (μ o 6 ≤ v3 → K 0 μ) ∧ (v3 < μ o 6 → ((0 : Int) ≤ v3 ∧ v3 < 30) ∧ (((0 : Int) ≤ μ (o + 4) v3 ∧ μ (o + 4) v3 < 30) ∧ ((¬ μ (o + 1) (μ (o + 4) v3) = v1 → z_I (v3 + 1) ∧ (z_ri m_X6_isTaken 2 [some (2, o), some (0, v1), some (0, v2), some (0, v3 + 1)] μ d K)) ∧ (μ (o + 1) (μ (o + 4) v3) = v1 → ((0 : Int) ≤ v3 ∧ v3 < 30) ∧ (((0 : Int) ≤ μ (o + 4) v3 ∧ μ (o + 4) v3 < 30) ∧ ((¬ μ (o + 2) (μ (o + 4) v3) = v2 → z_I (v3 + 1) ∧ (z_ri m_X6_isTaken 2 [some (2, o), some (0, v1), some (0, v2), some (0, v3 + 1)] μ d K)) ∧ (μ (o + 2) (μ (o + 4) v3) = v2 → K 1 μ)))))))) : z_ri m_X6_isTaken 2 [some (2, o), some (0, v1), some (0, v2), some (0, v3)] μ d K := by
  show z_R m_X6_isTaken 2 [some (2, o), some (0, v1), some (0, v2), some (0, v3)] [] z_n μ d _
  refine z_iload_n dX6_isTaken_2 rfl ?_
  refine z_aload_n dX6_isTaken_3 rfl ?_
  refine n_getf (ji := 6) (t := 0) dX6_isTaken_4 zf_X6_31 ho rfl (by decide) rfl ?_
  refine z_icmp_ge (tgt := 48) dX6_isTaken_7 (by decide) (fun q1 => ?_) (fun q2 => ?_)
  · refine z_iconst dX6_isTaken_48 ⟨by decide, by decide⟩ ?_
    exact z_zreturn dX6_isTaken_49 rfl rfl (by decide) ⟨_, rfl, (h.1 q1)⟩
  · refine z_aload_n dX6_isTaken_10 rfl ?_
    refine n_getp (ji := 0) dX6_isTaken_11 zf_X6_9 ho rfl (by decide) rfl (s_6_0_p ho) ?_
    refine z_aload_n dX6_isTaken_14 rfl ?_
    refine n_getp (ji := 3) dX6_isTaken_15 zf_X6_21 ho rfl (by decide) rfl (s_6_3_p ho) ?_
    refine z_iload_n dX6_isTaken_18 rfl ?_
    refine n_iald dX6_isTaken_19 (s_6_3_k ho) (h.2 q2).1 ?_
    refine n_iald dX6_isTaken_20 (s_6_0_k ho) (h.2 q2).2.1 ?_
    refine z_iload_n dX6_isTaken_21 rfl ?_
    refine z_icmp_ne (tgt := 42) dX6_isTaken_22 (by decide) (fun q3 => ?_) (fun q4 => ?_)
    · refine n_iinc (lo' := [some (2, o), some (0, v1), some (0, v2), some (0, v3 + 1)]) dX6_isTaken_42 rfl (by decide) ((h.2 q2).2.2.1 q3).1 rfl ?_
      refine z_goto (tgt := 2) dX6_isTaken_45 (by decide) ?_
      refine z_drop [some (2, o), some (0, v1), some (0, v2), some (0, v3 + 1)] ⟨rfl, rfl, rfl, rfl, trivial⟩ ?_
      exact ((h.2 q2).2.2.1 q3).2
    · refine z_aload_n dX6_isTaken_25 rfl ?_
      refine n_getp (ji := 1) dX6_isTaken_26 zf_X6_15 ho rfl (by decide) rfl (s_6_1_p ho) ?_
      refine z_aload_n dX6_isTaken_29 rfl ?_
      refine n_getp (ji := 3) dX6_isTaken_30 zf_X6_21 ho rfl (by decide) rfl (s_6_3_p ho) ?_
      refine z_iload_n dX6_isTaken_33 rfl ?_
      refine n_iald dX6_isTaken_34 (s_6_3_k ho) ((h.2 q2).2.2.2 q4).1 ?_
      refine n_iald dX6_isTaken_35 (s_6_1_k ho) ((h.2 q2).2.2.2 q4).2.1 ?_
      refine z_iload_n dX6_isTaken_36 rfl ?_
      refine z_icmp_ne (tgt := 42) dX6_isTaken_37 (by decide) (fun q5 => ?_) (fun q6 => ?_)
      · refine n_iinc (lo' := [some (2, o), some (0, v1), some (0, v2), some (0, v3 + 1)]) dX6_isTaken_42 rfl (by decide) (((h.2 q2).2.2.2 q4).2.2.1 q5).1 rfl ?_
        refine z_goto (tgt := 2) dX6_isTaken_45 (by decide) ?_
        refine z_drop [some (2, o), some (0, v1), some (0, v2), some (0, v3 + 1)] ⟨rfl, rfl, rfl, rfl, trivial⟩ ?_
        exact (((h.2 q2).2.2.2 q4).2.2.1 q5).2
      · refine z_iconst dX6_isTaken_40 ⟨by decide, by decide⟩ ?_
        exact z_zreturn dX6_isTaken_41 rfl rfl (by decide) ⟨_, rfl, (((h.2 q2).2.2.2 q4).2.2.2 q6)⟩
set_option maxRecDepth 20000 in
theorem V_X6_meet {o a b : Int} (ho : z_kd o = 6) {μ : z_Mem} {d : Nat} {K : Int → z_Mem → Prop} (h : z_ci m_X6_holds [(2, o), (0, a / 4)] μ d (fun x3 m1 => (x3 = 0 → K 0 m1) ∧ (¬ x3 = 0 → z_ci m_X6_holds [(2, o), (0, b / 4)] m1 d (fun x8 m6 => (x8 = 0 → K 0 m6) ∧ (¬ x8 = 0 → ((0 : Int) ≤ b / 4 ∧ b / 4 < 30) ∧ (z_ci m_X6_xBehind [(2, o), (0, a)] m6 d (fun x13 m11 => (¬ m6 (o + 1) (b / 4) = x13 → K 0 m11) ∧ (m6 (o + 1) (b / 4) = x13 → ((0 : Int) ≤ b / 4 ∧ b / 4 < 30) ∧ (z_ci m_X6_yBehind [(2, o), (0, a)] m11 d (fun x18 m16 => (¬ m11 (o + 2) (b / 4) = x18 → K 0 m16) ∧ (m11 (o + 2) (b / 4) = x18 → ((0 : Int) ≤ b / 4 ∧ b / 4 < 30) ∧ (z_ci m_X6_turnBehind [(2, o), (0, a), (0, b)] m16 d (fun x23 m21 => (¬ m16 (o + 3) (b / 4) = x23 → K 0 m21) ∧ (m16 (o + 3) (b / 4) = x23 → K 1 m21)))))))))))))) : z_ci m_X6_meet [(2, o), (0, a), (0, b)] μ (d + 1) K := by
  show z_R m_X6_meet 0 [some (2, o), some (0, a), some (0, b), none] [] z_n μ (d + 1) _
  refine z_iload_n dX6_meet_0 rfl ?_
  refine z_iconst dX6_meet_1 ⟨by decide, by decide⟩ ?_
  refine n_ishr (m := 4) dX6_meet_2 (by decide) (by decide) ?_
  refine n_istore_n (lo' := [some (2, o), some (0, a), some (0, b), some (0, b / 4)]) dX6_meet_3 ⟨Nat.le_of_ble_eq_true rfl, Nat.le_of_ble_eq_true rfl⟩ rfl ?_
  refine z_aload_n dX6_meet_4 rfl ?_
  refine z_iload_n dX6_meet_5 rfl ?_
  refine z_iconst dX6_meet_6 ⟨by decide, by decide⟩ ?_
  refine n_ishr (m := 4) dX6_meet_7 (by decide) (by decide) ?_
  refine n_vI (as := [(0, a / 4)]) (rest := []) dX6_meet_8 zm_X6_holds zs_X6_58 ho (by decide) rfl rfl (Nat.le_of_ble_eq_true rfl) (Nat.le_of_ble_eq_true rfl) h (fun x3 m1 h2 => ?_)
  refine z_if_eq (tgt := 69) dX6_meet_11 (by decide) (fun q4 => ?_) (fun q5 => ?_)
  · refine z_iconst dX6_meet_69 ⟨by decide, by decide⟩ ?_
    exact z_zreturn dX6_meet_70 rfl rfl (by decide) ⟨_, rfl, (h2.1 q4)⟩
  · refine z_aload_n dX6_meet_14 rfl ?_
    refine z_iload_n dX6_meet_15 rfl ?_
    refine n_vI (as := [(0, b / 4)]) (rest := []) dX6_meet_16 zm_X6_holds zs_X6_58 ho (by decide) rfl rfl (Nat.le_of_ble_eq_true rfl) (Nat.le_of_ble_eq_true rfl) (h2.2 q5) (fun x8 m6 h7 => ?_)
    refine z_if_eq (tgt := 69) dX6_meet_19 (by decide) (fun q9 => ?_) (fun q10 => ?_)
    · refine z_iconst dX6_meet_69 ⟨by decide, by decide⟩ ?_
      exact z_zreturn dX6_meet_70 rfl rfl (by decide) ⟨_, rfl, (h7.1 q9)⟩
    · refine z_aload_n dX6_meet_22 rfl ?_
      refine n_getp (ji := 0) dX6_meet_23 zf_X6_9 ho rfl (by decide) rfl (s_6_0_p ho) ?_
      refine z_iload_n dX6_meet_26 rfl ?_
      refine n_iald dX6_meet_27 (s_6_0_k ho) (h7.2 q10).1 ?_
      refine z_aload_n dX6_meet_28 rfl ?_
      refine z_iload_n dX6_meet_29 rfl ?_
      refine n_vI (as := [(0, a)]) (rest := [(0, m6 (o + 1) (b / 4))]) dX6_meet_30 zm_X6_xBehind zs_X6_67 ho (by decide) rfl rfl (Nat.le_of_ble_eq_true rfl) (Nat.le_of_ble_eq_true rfl) (h7.2 q10).2 (fun x13 m11 h12 => ?_)
      refine z_icmp_ne (tgt := 69) dX6_meet_33 (by decide) (fun q14 => ?_) (fun q15 => ?_)
      · refine z_iconst dX6_meet_69 ⟨by decide, by decide⟩ ?_
        exact z_zreturn dX6_meet_70 rfl rfl (by decide) ⟨_, rfl, (h12.1 q14)⟩
      · refine z_aload_n dX6_meet_36 rfl ?_
        refine n_getp (ji := 1) dX6_meet_37 zf_X6_15 ho rfl (by decide) rfl (s_6_1_p ho) ?_
        refine z_iload_n dX6_meet_40 rfl ?_
        refine n_iald dX6_meet_41 (s_6_1_k ho) (h12.2 q15).1 ?_
        refine z_aload_n dX6_meet_42 rfl ?_
        refine z_iload_n dX6_meet_43 rfl ?_
        refine n_vI (as := [(0, a)]) (rest := [(0, m11 (o + 2) (b / 4))]) dX6_meet_44 zm_X6_yBehind zs_X6_71 ho (by decide) rfl rfl (Nat.le_of_ble_eq_true rfl) (Nat.le_of_ble_eq_true rfl) (h12.2 q15).2 (fun x18 m16 h17 => ?_)
        refine z_icmp_ne (tgt := 69) dX6_meet_47 (by decide) (fun q19 => ?_) (fun q20 => ?_)
        · refine z_iconst dX6_meet_69 ⟨by decide, by decide⟩ ?_
          exact z_zreturn dX6_meet_70 rfl rfl (by decide) ⟨_, rfl, (h17.1 q19)⟩
        · refine z_aload_n dX6_meet_50 rfl ?_
          refine n_getp (ji := 2) dX6_meet_51 zf_X6_18 ho rfl (by decide) rfl (s_6_2_p ho) ?_
          refine z_iload_n dX6_meet_54 rfl ?_
          refine n_iald dX6_meet_55 (s_6_2_k ho) (h17.2 q20).1 ?_
          refine z_aload_n dX6_meet_56 rfl ?_
          refine z_iload_n dX6_meet_57 rfl ?_
          refine z_iload_n dX6_meet_58 rfl ?_
          refine n_vI (as := [(0, a), (0, b)]) (rest := [(0, m16 (o + 3) (b / 4))]) dX6_meet_59 zm_X6_turnBehind zs_X6_74 ho (by decide) rfl rfl (Nat.le_of_ble_eq_true rfl) (Nat.le_of_ble_eq_true rfl) (h17.2 q20).2 (fun x23 m21 h22 => ?_)
          refine z_icmp_ne (tgt := 69) dX6_meet_62 (by decide) (fun q24 => ?_) (fun q25 => ?_)
          · refine z_iconst dX6_meet_69 ⟨by decide, by decide⟩ ?_
            exact z_zreturn dX6_meet_70 rfl rfl (by decide) ⟨_, rfl, (h22.1 q24)⟩
          · refine z_iconst dX6_meet_65 ⟨by decide, by decide⟩ ?_
            refine z_goto (tgt := 70) dX6_meet_66 (by decide) ?_
            exact z_zreturn dX6_meet_70 rfl rfl (by decide) ⟨_, rfl, (h22.2 q25)⟩
set_option maxRecDepth 20000 in
theorem V_X6_overlap {o a : Int} (ho : z_kd o = 6) {μ : z_Mem} {d : Nat} {K : Int → z_Mem → Prop} (h : z_ri m_X6_overlap 4 [some (2, o), some (0, a), some (0, 0), some (0, 0), none] μ (d + 1) K) : z_ci m_X6_overlap [(2, o), (0, a)] μ (d + 1) K := by
  show z_R m_X6_overlap 0 [some (2, o), some (0, a), none, none, none] [] z_n μ (d + 1) _
  refine z_iconst dX6_overlap_0 ⟨by decide, by decide⟩ ?_
  refine n_istore_n (lo' := [some (2, o), some (0, a), some (0, 0), none, none]) dX6_overlap_1 ⟨Nat.le_of_ble_eq_true rfl, Nat.le_of_ble_eq_true rfl⟩ rfl ?_
  refine z_iconst dX6_overlap_2 ⟨by decide, by decide⟩ ?_
  refine n_istore_n (lo' := [some (2, o), some (0, a), some (0, 0), some (0, 0), none]) dX6_overlap_3 ⟨Nat.le_of_ble_eq_true rfl, Nat.le_of_ble_eq_true rfl⟩ rfl ?_
  refine z_drop [some (2, o), some (0, a), some (0, 0), some (0, 0), none] ⟨rfl, rfl, rfl, rfl, trivial⟩ ?_
  exact h
set_option maxRecDepth 20000 in
theorem V_X6_overlap_4 {v1 v2 v3 o : Int} (ho : z_kd o = 6) {μ : z_Mem} {d : Nat} {K : Int → z_Mem → Prop} (h : (30 ≤ v3 → (¬ v1 = (-1) → K (-2) μ) ∧ (v1 = (-1) → K v2 μ)) ∧ (v3 < 30 → z_I (v3 + 1) ∧ (z_ri m_X6_overlap 15 [some (2, o), some (0, v1), some (0, v2), some (0, v3), some (0, v3 + 1)] μ (d + 1) K))) : z_ri m_X6_overlap 4 [some (2, o), some (0, v1), some (0, v2), some (0, v3), none] μ (d + 1) K := by
  show z_R m_X6_overlap 4 [some (2, o), some (0, v1), some (0, v2), some (0, v3), none] [] z_n μ (d + 1) _
  refine z_iload_n dX6_overlap_4 rfl ?_
  refine z_bipush dX6_overlap_5 (by decide) ?_
  refine z_icmp_ge (tgt := 99) dX6_overlap_7 (by decide) (fun q1 => ?_) (fun q2 => ?_)
  · refine z_iload_n dX6_overlap_99 rfl ?_
    refine z_iconst dX6_overlap_100 ⟨by decide, by decide⟩ ?_
    refine z_icmp_ne (tgt := 108) dX6_overlap_101 (by decide) (fun q3 => ?_) (fun q4 => ?_)
    · refine z_bipush dX6_overlap_108 (by decide) ?_
      exact z_ireturn dX6_overlap_110 rfl rfl ⟨_, rfl, ((h.1 q1).1 q3)⟩
    · refine z_iload_n dX6_overlap_104 rfl ?_
      refine z_goto (tgt := 110) dX6_overlap_105 (by decide) ?_
      exact z_ireturn dX6_overlap_110 rfl rfl ⟨_, rfl, ((h.1 q1).2 q4)⟩
  · refine z_iload_n dX6_overlap_10 rfl ?_
    refine z_iconst dX6_overlap_11 ⟨by decide, by decide⟩ ?_
    refine z_iadd dX6_overlap_12 (h.2 q2).1 ?_
    refine n_istore (lo' := [some (2, o), some (0, v1), some (0, v2), some (0, v3), some (0, v3 + 1)]) dX6_overlap_13 ⟨Nat.le_of_ble_eq_true rfl, Nat.le_of_ble_eq_true rfl⟩ rfl ?_
    refine z_drop [some (2, o), some (0, v1), some (0, v2), some (0, v3), some (0, v3 + 1)] ⟨rfl, rfl, rfl, rfl, rfl, trivial⟩ ?_
    exact (h.2 q2).2
set_option maxRecDepth 20000 in
theorem V_X6_overlap_15 {v1 v2 v3 v4 o : Int} (ho : z_kd o = 6) {μ : z_Mem} {d : Nat} {K : Int → z_Mem → Prop} (h : (30 ≤ v4 → z_I (v3 + 1) ∧ (z_ri m_X6_overlap 4 [some (2, o), some (0, v1), some (0, v2), some (0, v3 + 1), none] μ (d + 1) K)) ∧ (v4 < 30 → z_ci m_X6_holds [(2, o), (0, v3)] μ d (fun x5 m3 => (x5 = 0 → z_I (v3 + 1) ∧ (z_ri m_X6_overlap 4 [some (2, o), some (0, v1), some (0, v2), some (0, v3 + 1), none] m3 (d + 1) K)) ∧ (¬ x5 = 0 → z_ci m_X6_holds [(2, o), (0, v4)] m3 d (fun x10 m8 => (x10 = 0 → z_I (v4 + 1) ∧ (z_ri m_X6_overlap 15 [some (2, o), some (0, v1), some (0, v2), some (0, v3), some (0, v4 + 1)] m8 (d + 1) K)) ∧ (¬ x10 = 0 → ((0 : Int) ≤ v3 ∧ v3 < 30) ∧ (((0 : Int) ≤ v4 ∧ v4 < 30) ∧ ((¬ m8 (o + 1) v3 = m8 (o + 1) v4 → z_I (v4 + 1) ∧ (z_ri m_X6_overlap 15 [some (2, o), some (0, v1), some (0, v2), some (0, v3), some (0, v4 + 1)] m8 (d + 1) K)) ∧ (m8 (o + 1) v3 = m8 (o + 1) v4 → ((0 : Int) ≤ v3 ∧ v3 < 30) ∧ (((0 : Int) ≤ v4 ∧ v4 < 30) ∧ ((¬ m8 (o + 2) v3 = m8 (o + 2) v4 → z_I (v4 + 1) ∧ (z_ri m_X6_overlap 15 [some (2, o), some (0, v1), some (0, v2), some (0, v3), some (0, v4 + 1)] m8 (d + 1) K)) ∧ (m8 (o + 2) v3 = m8 (o + 2) v4 → (¬ v2 = v1 → z_I (v2 + 1) ∧ (z_I (v4 + 1) ∧ (z_ri m_X6_overlap 15 [some (2, o), some (0, v1), some (0, v2 + 1), some (0, v3), some (0, v4 + 1)] m8 (d + 1) K))) ∧ (v2 = v1 → z_I (100 * v3) ∧ (z_I ((100 * v3) + v4) ∧ (K ((100 * v3) + v4) m8))))))))))))))) : z_ri m_X6_overlap 15 [some (2, o), some (0, v1), some (0, v2), some (0, v3), some (0, v4)] μ (d + 1) K := by
  show z_R m_X6_overlap 15 [some (2, o), some (0, v1), some (0, v2), some (0, v3), some (0, v4)] [] z_n μ (d + 1) _
  refine z_iload dX6_overlap_15 rfl ?_
  refine z_bipush dX6_overlap_17 (by decide) ?_
  refine z_icmp_ge (tgt := 93) dX6_overlap_19 (by decide) (fun q1 => ?_) (fun q2 => ?_)
  · refine n_iinc (lo' := [some (2, o), some (0, v1), some (0, v2), some (0, v3 + 1), some (0, v4)]) dX6_overlap_93 rfl (by decide) (h.1 q1).1 rfl ?_
    refine z_goto (tgt := 4) dX6_overlap_96 (by decide) ?_
    refine z_drop [some (2, o), some (0, v1), some (0, v2), some (0, v3 + 1), none] ⟨rfl, rfl, rfl, rfl, trivial⟩ ?_
    exact (h.1 q1).2
  · refine z_aload_n dX6_overlap_22 rfl ?_
    refine z_iload_n dX6_overlap_23 rfl ?_
    refine n_vI (as := [(0, v3)]) (rest := []) dX6_overlap_24 zm_X6_holds zs_X6_58 ho (by decide) rfl rfl (Nat.le_of_ble_eq_true rfl) (Nat.le_of_ble_eq_true rfl) (h.2 q2) (fun x5 m3 h4 => ?_)
    refine z_if_eq (tgt := 93) dX6_overlap_27 (by decide) (fun q6 => ?_) (fun q7 => ?_)
    · refine n_iinc (lo' := [some (2, o), some (0, v1), some (0, v2), some (0, v3 + 1), some (0, v4)]) dX6_overlap_93 rfl (by decide) (h4.1 q6).1 rfl ?_
      refine z_goto (tgt := 4) dX6_overlap_96 (by decide) ?_
      refine z_drop [some (2, o), some (0, v1), some (0, v2), some (0, v3 + 1), none] ⟨rfl, rfl, rfl, rfl, trivial⟩ ?_
      exact (h4.1 q6).2
    · refine z_aload_n dX6_overlap_30 rfl ?_
      refine z_iload dX6_overlap_31 rfl ?_
      refine n_vI (as := [(0, v4)]) (rest := []) dX6_overlap_33 zm_X6_holds zs_X6_58 ho (by decide) rfl rfl (Nat.le_of_ble_eq_true rfl) (Nat.le_of_ble_eq_true rfl) (h4.2 q7) (fun x10 m8 h9 => ?_)
      refine z_if_eq (tgt := 87) dX6_overlap_36 (by decide) (fun q11 => ?_) (fun q12 => ?_)
      · refine n_iinc (lo' := [some (2, o), some (0, v1), some (0, v2), some (0, v3), some (0, v4 + 1)]) dX6_overlap_87 rfl (by decide) (h9.1 q11).1 rfl ?_
        refine z_goto (tgt := 15) dX6_overlap_90 (by decide) ?_
        refine z_drop [some (2, o), some (0, v1), some (0, v2), some (0, v3), some (0, v4 + 1)] ⟨rfl, rfl, rfl, rfl, rfl, trivial⟩ ?_
        exact (h9.1 q11).2
      · refine z_aload_n dX6_overlap_39 rfl ?_
        refine n_getp (ji := 0) dX6_overlap_40 zf_X6_9 ho rfl (by decide) rfl (s_6_0_p ho) ?_
        refine z_iload_n dX6_overlap_43 rfl ?_
        refine n_iald dX6_overlap_44 (s_6_0_k ho) (h9.2 q12).1 ?_
        refine z_aload_n dX6_overlap_45 rfl ?_
        refine n_getp (ji := 0) dX6_overlap_46 zf_X6_9 ho rfl (by decide) rfl (s_6_0_p ho) ?_
        refine z_iload dX6_overlap_49 rfl ?_
        refine n_iald dX6_overlap_51 (s_6_0_k ho) (h9.2 q12).2.1 ?_
        refine z_icmp_ne (tgt := 87) dX6_overlap_52 (by decide) (fun q13 => ?_) (fun q14 => ?_)
        · refine n_iinc (lo' := [some (2, o), some (0, v1), some (0, v2), some (0, v3), some (0, v4 + 1)]) dX6_overlap_87 rfl (by decide) ((h9.2 q12).2.2.1 q13).1 rfl ?_
          refine z_goto (tgt := 15) dX6_overlap_90 (by decide) ?_
          refine z_drop [some (2, o), some (0, v1), some (0, v2), some (0, v3), some (0, v4 + 1)] ⟨rfl, rfl, rfl, rfl, rfl, trivial⟩ ?_
          exact ((h9.2 q12).2.2.1 q13).2
        · refine z_aload_n dX6_overlap_55 rfl ?_
          refine n_getp (ji := 1) dX6_overlap_56 zf_X6_15 ho rfl (by decide) rfl (s_6_1_p ho) ?_
          refine z_iload_n dX6_overlap_59 rfl ?_
          refine n_iald dX6_overlap_60 (s_6_1_k ho) ((h9.2 q12).2.2.2 q14).1 ?_
          refine z_aload_n dX6_overlap_61 rfl ?_
          refine n_getp (ji := 1) dX6_overlap_62 zf_X6_15 ho rfl (by decide) rfl (s_6_1_p ho) ?_
          refine z_iload dX6_overlap_65 rfl ?_
          refine n_iald dX6_overlap_67 (s_6_1_k ho) ((h9.2 q12).2.2.2 q14).2.1 ?_
          refine z_icmp_ne (tgt := 87) dX6_overlap_68 (by decide) (fun q15 => ?_) (fun q16 => ?_)
          · refine n_iinc (lo' := [some (2, o), some (0, v1), some (0, v2), some (0, v3), some (0, v4 + 1)]) dX6_overlap_87 rfl (by decide) (((h9.2 q12).2.2.2 q14).2.2.1 q15).1 rfl ?_
            refine z_goto (tgt := 15) dX6_overlap_90 (by decide) ?_
            refine z_drop [some (2, o), some (0, v1), some (0, v2), some (0, v3), some (0, v4 + 1)] ⟨rfl, rfl, rfl, rfl, rfl, trivial⟩ ?_
            exact (((h9.2 q12).2.2.2 q14).2.2.1 q15).2
          · refine z_iload_n dX6_overlap_71 rfl ?_
            refine z_iload_n dX6_overlap_72 rfl ?_
            refine z_icmp_ne (tgt := 84) dX6_overlap_73 (by decide) (fun q17 => ?_) (fun q18 => ?_)
            · refine n_iinc (lo' := [some (2, o), some (0, v1), some (0, v2 + 1), some (0, v3), some (0, v4)]) dX6_overlap_84 rfl (by decide) ((((h9.2 q12).2.2.2 q14).2.2.2 q16).1 q17).1 rfl ?_
              refine n_iinc (lo' := [some (2, o), some (0, v1), some (0, v2 + 1), some (0, v3), some (0, v4 + 1)]) dX6_overlap_87 rfl (by decide) ((((h9.2 q12).2.2.2 q14).2.2.2 q16).1 q17).2.1 rfl ?_
              refine z_goto (tgt := 15) dX6_overlap_90 (by decide) ?_
              refine z_drop [some (2, o), some (0, v1), some (0, v2 + 1), some (0, v3), some (0, v4 + 1)] ⟨rfl, rfl, rfl, rfl, rfl, trivial⟩ ?_
              exact ((((h9.2 q12).2.2.2 q14).2.2.2 q16).1 q17).2.2
            · refine z_bipush dX6_overlap_76 (by decide) ?_
              refine z_iload_n dX6_overlap_78 rfl ?_
              refine z_imul dX6_overlap_79 ((((h9.2 q12).2.2.2 q14).2.2.2 q16).2 q18).1 ?_
              refine z_iload dX6_overlap_80 rfl ?_
              refine z_iadd dX6_overlap_82 ((((h9.2 q12).2.2.2 q14).2.2.2 q16).2 q18).2.1 ?_
              exact z_ireturn dX6_overlap_83 rfl rfl ⟨_, rfl, ((((h9.2 q12).2.2.2 q14).2.2.2 q16).2 q18).2.2⟩
set_option maxRecDepth 20000 in
theorem V_X6_least {o r0 n0 : Int} (ho : z_kd o = 6) (hr0 : z_kd r0 = 14 ∧ z_ln r0 = n0) {μ : z_Mem} {d : Nat} {K : Int → z_Mem → Prop} (h : z_ri m_X6_least 4 [some (2, o), some (2, r0), some (0, 0), some (0, 0)] μ (d + 1) K) : z_ci m_X6_least [(2, o), (2, r0)] μ (d + 1) K := by
  show z_R m_X6_least 0 [some (2, o), some (2, r0), none, none] [] z_n μ (d + 1) _
  refine z_iconst dX6_least_0 ⟨by decide, by decide⟩ ?_
  refine n_istore_n (lo' := [some (2, o), some (2, r0), some (0, 0), none]) dX6_least_1 ⟨Nat.le_of_ble_eq_true rfl, Nat.le_of_ble_eq_true rfl⟩ rfl ?_
  refine z_iconst dX6_least_2 ⟨by decide, by decide⟩ ?_
  refine n_istore_n (lo' := [some (2, o), some (2, r0), some (0, 0), some (0, 0)]) dX6_least_3 ⟨Nat.le_of_ble_eq_true rfl, Nat.le_of_ble_eq_true rfl⟩ rfl ?_
  refine z_drop [some (2, o), some (2, r0), some (0, 0), some (0, 0)] ⟨rfl, rfl, rfl, rfl, trivial⟩ ?_
  exact h
set_option maxRecDepth 20000 in
theorem V_X6_least_4 {v2 v3 o r0 n0 : Int} (ho : z_kd o = 6) (hr0 : z_kd r0 = 14 ∧ z_ln r0 = n0) {μ : z_Mem} {d : Nat} {K : Int → z_Mem → Prop} (h : (μ o 6 ≤ v3 → K v2 μ) ∧ (v3 < μ o 6 → ((0 : Int) ≤ v3 ∧ v3 < 30) ∧ (((0 : Int) ≤ μ (o + 4) v3 ∧ μ (o + 4) v3 < n0) ∧ (z_I (v3 + 1) ∧ (z_ri m_X6_least 4 [some (2, o), some (2, r0), some (0, min v2 (μ r0 (μ (o + 4) v3))), some (0, v3 + 1)] μ (d + 1) K))))) : z_ri m_X6_least 4 [some (2, o), some (2, r0), some (0, v2), some (0, v3)] μ (d + 1) K := by
  show z_R m_X6_least 4 [some (2, o), some (2, r0), some (0, v2), some (0, v3)] [] z_n μ (d + 1) _
  refine z_iload_n dX6_least_4 rfl ?_
  refine z_aload_n dX6_least_5 rfl ?_
  refine n_getf (ji := 6) (t := 0) dX6_least_6 zf_X6_31 ho rfl (by decide) rfl ?_
  refine z_icmp_ge (tgt := 31) dX6_least_9 (by decide) (fun q1 => ?_) (fun q2 => ?_)
  · refine z_iload_n dX6_least_31 rfl ?_
    exact z_ireturn dX6_least_32 rfl rfl ⟨_, rfl, (h.1 q1)⟩
  · refine z_iload_n dX6_least_12 rfl ?_
    refine z_aload_n dX6_least_13 rfl ?_
    refine z_aload_n dX6_least_14 rfl ?_
    refine n_getp (ji := 3) dX6_least_15 zf_X6_21 ho rfl (by decide) rfl (s_6_3_p ho) ?_
    refine z_iload_n dX6_least_18 rfl ?_
    refine n_iald dX6_least_19 (s_6_3_k ho) (h.2 q2).1 ?_
    refine n_iald dX6_least_20 hr0 (h.2 q2).2.1 ?_
    refine z_mmin dX6_least_21 zq_1045 zq_592 zq_133 zq_593 (Nat.le_of_ble_eq_true rfl) ?_
    refine n_istore_n (lo' := [some (2, o), some (2, r0), some (0, min v2 (μ r0 (μ (o + 4) v3))), some (0, v3)]) dX6_least_24 ⟨Nat.le_of_ble_eq_true rfl, Nat.le_of_ble_eq_true rfl⟩ rfl ?_
    refine n_iinc (lo' := [some (2, o), some (2, r0), some (0, min v2 (μ r0 (μ (o + 4) v3))), some (0, v3 + 1)]) dX6_least_25 rfl (by decide) (h.2 q2).2.2.1 rfl ?_
    refine z_goto (tgt := 4) dX6_least_28 (by decide) ?_
    refine z_drop [some (2, o), some (2, r0), some (0, min v2 (μ r0 (μ (o + 4) v3))), some (0, v3 + 1)] ⟨rfl, rfl, rfl, rfl, trivial⟩ ?_
    exact (h.2 q2).2.2.2
set_option maxRecDepth 20000 in
theorem V_X6_greatest {o r0 n0 : Int} (ho : z_kd o = 6) (hr0 : z_kd r0 = 14 ∧ z_ln r0 = n0) {μ : z_Mem} {d : Nat} {K : Int → z_Mem → Prop} (h : z_ri m_X6_greatest 4 [some (2, o), some (2, r0), some (0, 0), some (0, 0)] μ (d + 1) K) : z_ci m_X6_greatest [(2, o), (2, r0)] μ (d + 1) K := by
  show z_R m_X6_greatest 0 [some (2, o), some (2, r0), none, none] [] z_n μ (d + 1) _
  refine z_iconst dX6_greatest_0 ⟨by decide, by decide⟩ ?_
  refine n_istore_n (lo' := [some (2, o), some (2, r0), some (0, 0), none]) dX6_greatest_1 ⟨Nat.le_of_ble_eq_true rfl, Nat.le_of_ble_eq_true rfl⟩ rfl ?_
  refine z_iconst dX6_greatest_2 ⟨by decide, by decide⟩ ?_
  refine n_istore_n (lo' := [some (2, o), some (2, r0), some (0, 0), some (0, 0)]) dX6_greatest_3 ⟨Nat.le_of_ble_eq_true rfl, Nat.le_of_ble_eq_true rfl⟩ rfl ?_
  refine z_drop [some (2, o), some (2, r0), some (0, 0), some (0, 0)] ⟨rfl, rfl, rfl, rfl, trivial⟩ ?_
  exact h
set_option maxRecDepth 20000 in
theorem V_X6_greatest_4 {v2 v3 o r0 n0 : Int} (ho : z_kd o = 6) (hr0 : z_kd r0 = 14 ∧ z_ln r0 = n0) {μ : z_Mem} {d : Nat} {K : Int → z_Mem → Prop} (h : (μ o 6 ≤ v3 → K v2 μ) ∧ (v3 < μ o 6 → ((0 : Int) ≤ v3 ∧ v3 < 30) ∧ (((0 : Int) ≤ μ (o + 4) v3 ∧ μ (o + 4) v3 < n0) ∧ (z_I (v3 + 1) ∧ (z_ri m_X6_greatest 4 [some (2, o), some (2, r0), some (0, max v2 (μ r0 (μ (o + 4) v3))), some (0, v3 + 1)] μ (d + 1) K))))) : z_ri m_X6_greatest 4 [some (2, o), some (2, r0), some (0, v2), some (0, v3)] μ (d + 1) K := by
  show z_R m_X6_greatest 4 [some (2, o), some (2, r0), some (0, v2), some (0, v3)] [] z_n μ (d + 1) _
  refine z_iload_n dX6_greatest_4 rfl ?_
  refine z_aload_n dX6_greatest_5 rfl ?_
  refine n_getf (ji := 6) (t := 0) dX6_greatest_6 zf_X6_31 ho rfl (by decide) rfl ?_
  refine z_icmp_ge (tgt := 31) dX6_greatest_9 (by decide) (fun q1 => ?_) (fun q2 => ?_)
  · refine z_iload_n dX6_greatest_31 rfl ?_
    exact z_ireturn dX6_greatest_32 rfl rfl ⟨_, rfl, (h.1 q1)⟩
  · refine z_iload_n dX6_greatest_12 rfl ?_
    refine z_aload_n dX6_greatest_13 rfl ?_
    refine z_aload_n dX6_greatest_14 rfl ?_
    refine n_getp (ji := 3) dX6_greatest_15 zf_X6_21 ho rfl (by decide) rfl (s_6_3_p ho) ?_
    refine z_iload_n dX6_greatest_18 rfl ?_
    refine n_iald dX6_greatest_19 (s_6_3_k ho) (h.2 q2).1 ?_
    refine n_iald dX6_greatest_20 hr0 (h.2 q2).2.1 ?_
    refine z_mmax dX6_greatest_21 zq_1050 zq_675 zq_133 zq_676 (Nat.le_of_ble_eq_true rfl) ?_
    refine n_istore_n (lo' := [some (2, o), some (2, r0), some (0, max v2 (μ r0 (μ (o + 4) v3))), some (0, v3)]) dX6_greatest_24 ⟨Nat.le_of_ble_eq_true rfl, Nat.le_of_ble_eq_true rfl⟩ rfl ?_
    refine n_iinc (lo' := [some (2, o), some (2, r0), some (0, max v2 (μ r0 (μ (o + 4) v3))), some (0, v3 + 1)]) dX6_greatest_25 rfl (by decide) (h.2 q2).2.2.1 rfl ?_
    refine z_goto (tgt := 4) dX6_greatest_28 (by decide) ?_
    refine z_drop [some (2, o), some (2, r0), some (0, max v2 (μ r0 (μ (o + 4) v3))), some (0, v3 + 1)] ⟨rfl, rfl, rfl, rfl, trivial⟩ ?_
    exact (h.2 q2).2.2.2
set_option maxRecDepth 20000 in
theorem V_X9_make {r0 n0 a : Int} (hr0 : z_kd r0 = 14 ∧ z_ln r0 = n0) {μ : z_Mem} {d : Nat} {K : z_Mem → Prop} (h : (21 ≤ n0) ∧ (z_cn m_X9_findFaces [(2, 6)] (z_cpy (z_st μ 6 0 (min a 7)) r0 0 7 0 21) d (fun m1 => z_cn m_X9_findEdges [(2, 6)] m1 d (fun m3 => z_cn m_X9_findVertices [(2, 6)] m3 d (fun m5 => K m5))))) : z_cn m_X9_make [(2, 6), (2, r0), (0, a)] μ (d + 1) K := by
  show z_R m_X9_make 0 [some (2, 6), some (2, r0), some (0, a)] [] z_n μ (d + 1) _
  refine z_aload_n dX9_make_0 rfl ?_
  refine z_iload_n dX9_make_1 rfl ?_
  refine z_bipush dX9_make_2 (by decide) ?_
  refine z_mmin dX9_make_4 zq_641 zq_592 zq_133 zq_593 (Nat.le_of_ble_eq_true rfl) ?_
  refine n_putI (ji := 0) dX9_make_7 zf_X9_9 k_6 rfl (by decide) rfl ?_
  refine z_aload_n dX9_make_10 rfl ?_
  refine z_iconst dX9_make_11 ⟨by decide, by decide⟩ ?_
  refine z_aload_n dX9_make_12 rfl ?_
  refine n_getp (ji := 1) dX9_make_13 zf_X9_15 k_6 rfl (by decide) rfl p_6_1 ?_
  refine z_iconst dX9_make_16 ⟨by decide, by decide⟩ ?_
  refine z_aload_n dX9_make_17 rfl ?_
  refine n_getp (ji := 1) dX9_make_18 zf_X9_15 k_6 rfl (by decide) rfl p_6_1 ?_
  refine n_alen (t0 := 1) dX9_make_21 k_7 (by decide) (fun _ => rfl) (by decide) ?_
  refine z_acopy dX9_make_22 zq_642 zq_644 zq_643 zq_134 (Nat.le_of_ble_eq_true rfl) (z_isn hr0.1 (by decide)) (z_isn k_7.1 (by decide)) (by decide) (by decide) (by decide) (by rw [hr0.2]; have := h.1; omega) (by rw [k_7.2]; decide) ?_
  refine z_aload_n dX9_make_25 rfl ?_
  refine n_vN (as := []) (rest := []) dX9_make_26 zm_X9_findFaces zs_X9_79 k_6 (by decide) rfl rfl (Nat.le_of_ble_eq_true rfl) (Nat.le_of_ble_eq_true rfl) h.2 (fun m1 h2 => ?_)
  refine z_aload_n dX9_make_29 rfl ?_
  refine n_vN (as := []) (rest := []) dX9_make_30 zm_X9_findEdges zs_X9_82 k_6 (by decide) rfl rfl (Nat.le_of_ble_eq_true rfl) (Nat.le_of_ble_eq_true rfl) h2 (fun m3 h4 => ?_)
  refine z_aload_n dX9_make_33 rfl ?_
  refine n_vN (as := []) (rest := []) dX9_make_34 zm_X9_findVertices zs_X9_85 k_6 (by decide) rfl rfl (Nat.le_of_ble_eq_true rfl) (Nat.le_of_ble_eq_true rfl) h4 (fun m5 h6 => ?_)
  exact z_return dX9_make_37 rfl rfl ⟨rfl, h6⟩
set_option maxRecDepth 20000 in
theorem V_X9_findFaces  {μ : z_Mem} {d : Nat} {K : z_Mem → Prop} (h : z_rn m_X9_findFaces 7 [some (2, 6), some (0, 0), none] (z_st μ 6 2 0) (d + 1) K) : z_cn m_X9_findFaces [(2, 6)] μ (d + 1) K := by
  show z_R m_X9_findFaces 0 [some (2, 6), none, none] [] z_n μ (d + 1) _
  refine z_aload_n dX9_findFaces_0 rfl ?_
  refine z_iconst dX9_findFaces_1 ⟨by decide, by decide⟩ ?_
  refine n_putI (ji := 2) dX9_findFaces_2 zf_X9_19 k_6 rfl (by decide) rfl ?_
  refine z_iconst dX9_findFaces_5 ⟨by decide, by decide⟩ ?_
  refine n_istore_n (lo' := [some (2, 6), some (0, 0), none]) dX9_findFaces_6 ⟨Nat.le_of_ble_eq_true rfl, Nat.le_of_ble_eq_true rfl⟩ rfl ?_
  refine z_drop [some (2, 6), some (0, 0), none] ⟨rfl, rfl, trivial⟩ ?_
  exact h
set_option maxRecDepth 20000 in
theorem V_X9_findFaces_7 {v1 : Int}  {μ : z_Mem} {d : Nat} {K : z_Mem → Prop} (h : (μ 6 0 ≤ v1 → K μ) ∧ (v1 < μ 6 0 → z_rn m_X9_findFaces 17 [some (2, 6), some (0, v1), some (0, 0)] μ (d + 1) K)) : z_rn m_X9_findFaces 7 [some (2, 6), some (0, v1), none] μ (d + 1) K := by
  show z_R m_X9_findFaces 7 [some (2, 6), some (0, v1), none] [] z_n μ (d + 1) _
  refine z_iload_n dX9_findFaces_7 rfl ?_
  refine z_aload_n dX9_findFaces_8 rfl ?_
  refine n_getf (ji := 0) (t := 0) dX9_findFaces_9 zf_X9_9 k_6 rfl (by decide) rfl ?_
  refine z_icmp_ge (tgt := 112) dX9_findFaces_12 (by decide) (fun q1 => ?_) (fun q2 => ?_)
  · exact z_return dX9_findFaces_112 rfl rfl ⟨rfl, (h.1 q1)⟩
  · refine z_iconst dX9_findFaces_15 ⟨by decide, by decide⟩ ?_
    refine n_istore_n (lo' := [some (2, 6), some (0, v1), some (0, 0)]) dX9_findFaces_16 ⟨Nat.le_of_ble_eq_true rfl, Nat.le_of_ble_eq_true rfl⟩ rfl ?_
    refine z_drop [some (2, 6), some (0, v1), some (0, 0)] ⟨rfl, rfl, rfl, trivial⟩ ?_
    exact (h.2 q2)
set_option maxRecDepth 20000 in
theorem V_X9_findFaces_17 {v1 v2 : Int}  {μ : z_Mem} {d : Nat} {K : z_Mem → Prop} (h : (6 ≤ v2 → z_I (v1 + 1) ∧ (z_rn m_X9_findFaces 7 [some (2, 6), some (0, v1 + 1), none] μ (d + 1) K)) ∧ (v2 < 6 → z_I (6 * v1) ∧ (z_I ((6 * v1) + v2) ∧ (((0 : Int) ≤ (6 * v1) + v2 ∧ (6 * v1) + v2 < 42) ∧ (z_ci m_X9_cubeBeside [(2, 6), (0, v1), (0, v2), (0, (-1))] (z_st μ 8 ((6 * v1) + v2) (-1)) d (fun x5 m3 => (¬ x5 = (-1) → z_I (v2 + 1) ∧ (z_rn m_X9_findFaces 17 [some (2, 6), some (0, v1), some (0, v2 + 1)] m3 (d + 1) K)) ∧ (x5 = (-1) → (30 ≤ m3 6 2 → z_I (v2 + 1) ∧ (z_rn m_X9_findFaces 17 [some (2, 6), some (0, v1), some (0, v2 + 1)] m3 (d + 1) K)) ∧ (m3 6 2 < 30 → z_I (6 * v1) ∧ (z_I ((6 * v1) + v2) ∧ (((0 : Int) ≤ (6 * v1) + v2 ∧ (6 * v1) + v2 < 42) ∧ (((0 : Int) ≤ (z_st m3 8 ((6 * v1) + v2) (m3 6 2)) 6 2 ∧ (z_st m3 8 ((6 * v1) + v2) (m3 6 2)) 6 2 < 30) ∧ (((0 : Int) ≤ (z_st (z_st m3 8 ((6 * v1) + v2) (m3 6 2)) 9 ((z_st m3 8 ((6 * v1) + v2) (m3 6 2)) 6 2) v1) 6 2 ∧ (z_st (z_st m3 8 ((6 * v1) + v2) (m3 6 2)) 9 ((z_st m3 8 ((6 * v1) + v2) (m3 6 2)) 6 2) v1) 6 2 < 30) ∧ (z_I (((z_st (z_st (z_st m3 8 ((6 * v1) + v2) (m3 6 2)) 9 ((z_st m3 8 ((6 * v1) + v2) (m3 6 2)) 6 2) v1) 10 ((z_st (z_st m3 8 ((6 * v1) + v2) (m3 6 2)) 9 ((z_st m3 8 ((6 * v1) + v2) (m3 6 2)) 6 2) v1) 6 2) v2) 6 2) + 1) ∧ (z_I (v2 + 1) ∧ (z_rn m_X9_findFaces 17 [some (2, 6), some (0, v1), some (0, v2 + 1)] (z_st (z_st (z_st (z_st m3 8 ((6 * v1) + v2) (m3 6 2)) 9 ((z_st m3 8 ((6 * v1) + v2) (m3 6 2)) 6 2) v1) 10 ((z_st (z_st m3 8 ((6 * v1) + v2) (m3 6 2)) 9 ((z_st m3 8 ((6 * v1) + v2) (m3 6 2)) 6 2) v1) 6 2) v2) 6 2 (((z_st (z_st (z_st m3 8 ((6 * v1) + v2) (m3 6 2)) 9 ((z_st m3 8 ((6 * v1) + v2) (m3 6 2)) 6 2) v1) 10 ((z_st (z_st m3 8 ((6 * v1) + v2) (m3 6 2)) 9 ((z_st m3 8 ((6 * v1) + v2) (m3 6 2)) 6 2) v1) 6 2) v2) 6 2) + 1)) (d + 1) K))))))))))))))) : z_rn m_X9_findFaces 17 [some (2, 6), some (0, v1), some (0, v2)] μ (d + 1) K := by
  show z_R m_X9_findFaces 17 [some (2, 6), some (0, v1), some (0, v2)] [] z_n μ (d + 1) _
  refine z_iload_n dX9_findFaces_17 rfl ?_
  refine z_bipush dX9_findFaces_18 (by decide) ?_
  refine z_icmp_ge (tgt := 106) dX9_findFaces_20 (by decide) (fun q1 => ?_) (fun q2 => ?_)
  · refine n_iinc (lo' := [some (2, 6), some (0, v1 + 1), some (0, v2)]) dX9_findFaces_106 rfl (by decide) (h.1 q1).1 rfl ?_
    refine z_goto (tgt := 7) dX9_findFaces_109 (by decide) ?_
    refine z_drop [some (2, 6), some (0, v1 + 1), none] ⟨rfl, rfl, trivial⟩ ?_
    exact (h.1 q1).2
  · refine z_aload_n dX9_findFaces_23 rfl ?_
    refine n_getp (ji := 3) dX9_findFaces_24 zf_X9_22 k_6 rfl (by decide) rfl p_6_3 ?_
    refine z_bipush dX9_findFaces_27 (by decide) ?_
    refine z_iload_n dX9_findFaces_29 rfl ?_
    refine z_imul dX9_findFaces_30 (h.2 q2).1 ?_
    refine z_iload_n dX9_findFaces_31 rfl ?_
    refine z_iadd dX9_findFaces_32 (h.2 q2).2.1 ?_
    refine z_iconst dX9_findFaces_33 ⟨by decide, by decide⟩ ?_
    refine n_iast dX9_findFaces_34 k_8 (h.2 q2).2.2.1 ?_
    refine z_aload_n dX9_findFaces_35 rfl ?_
    refine z_iload_n dX9_findFaces_36 rfl ?_
    refine z_iload_n dX9_findFaces_37 rfl ?_
    refine z_iconst dX9_findFaces_38 ⟨by decide, by decide⟩ ?_
    refine n_vI (as := [(0, v1), (0, v2), (0, (-1))]) (rest := []) dX9_findFaces_39 zm_X9_cubeBeside zs_X9_88 k_6 (by decide) rfl rfl (Nat.le_of_ble_eq_true rfl) (Nat.le_of_ble_eq_true rfl) (h.2 q2).2.2.2 (fun x5 m3 h4 => ?_)
    refine z_iconst dX9_findFaces_42 ⟨by decide, by decide⟩ ?_
    refine z_icmp_ne (tgt := 100) dX9_findFaces_43 (by decide) (fun q6 => ?_) (fun q7 => ?_)
    · refine n_iinc (lo' := [some (2, 6), some (0, v1), some (0, v2 + 1)]) dX9_findFaces_100 rfl (by decide) (h4.1 q6).1 rfl ?_
      refine z_goto (tgt := 17) dX9_findFaces_103 (by decide) ?_
      refine z_drop [some (2, 6), some (0, v1), some (0, v2 + 1)] ⟨rfl, rfl, rfl, trivial⟩ ?_
      exact (h4.1 q6).2
    · refine z_aload_n dX9_findFaces_46 rfl ?_
      refine n_getf (ji := 2) (t := 0) dX9_findFaces_47 zf_X9_19 k_6 rfl (by decide) rfl ?_
      refine z_bipush dX9_findFaces_50 (by decide) ?_
      refine z_icmp_ge (tgt := 100) dX9_findFaces_52 (by decide) (fun q8 => ?_) (fun q9 => ?_)
      · refine n_iinc (lo' := [some (2, 6), some (0, v1), some (0, v2 + 1)]) dX9_findFaces_100 rfl (by decide) ((h4.2 q7).1 q8).1 rfl ?_
        refine z_goto (tgt := 17) dX9_findFaces_103 (by decide) ?_
        refine z_drop [some (2, 6), some (0, v1), some (0, v2 + 1)] ⟨rfl, rfl, rfl, trivial⟩ ?_
        exact ((h4.2 q7).1 q8).2
      · refine z_aload_n dX9_findFaces_55 rfl ?_
        refine n_getp (ji := 3) dX9_findFaces_56 zf_X9_22 k_6 rfl (by decide) rfl p_6_3 ?_
        refine z_bipush dX9_findFaces_59 (by decide) ?_
        refine z_iload_n dX9_findFaces_61 rfl ?_
        refine z_imul dX9_findFaces_62 ((h4.2 q7).2 q9).1 ?_
        refine z_iload_n dX9_findFaces_63 rfl ?_
        refine z_iadd dX9_findFaces_64 ((h4.2 q7).2 q9).2.1 ?_
        refine z_aload_n dX9_findFaces_65 rfl ?_
        refine n_getf (ji := 2) (t := 0) dX9_findFaces_66 zf_X9_19 k_6 rfl (by decide) rfl ?_
        refine n_iast dX9_findFaces_69 k_8 ((h4.2 q7).2 q9).2.2.1 ?_
        refine z_aload_n dX9_findFaces_70 rfl ?_
        refine n_getp (ji := 4) dX9_findFaces_71 zf_X9_25 k_6 rfl (by decide) rfl p_6_4 ?_
        refine z_aload_n dX9_findFaces_74 rfl ?_
        refine n_getf (ji := 2) (t := 0) dX9_findFaces_75 zf_X9_19 k_6 rfl (by decide) rfl ?_
        refine z_iload_n dX9_findFaces_78 rfl ?_
        refine n_iast dX9_findFaces_79 k_9 ((h4.2 q7).2 q9).2.2.2.1 ?_
        refine z_aload_n dX9_findFaces_80 rfl ?_
        refine n_getp (ji := 5) dX9_findFaces_81 zf_X9_28 k_6 rfl (by decide) rfl p_6_5 ?_
        refine z_aload_n dX9_findFaces_84 rfl ?_
        refine n_getf (ji := 2) (t := 0) dX9_findFaces_85 zf_X9_19 k_6 rfl (by decide) rfl ?_
        refine z_iload_n dX9_findFaces_88 rfl ?_
        refine n_iast dX9_findFaces_89 k_10 ((h4.2 q7).2 q9).2.2.2.2.1 ?_
        refine z_aload_n dX9_findFaces_90 rfl ?_
        refine z_dup dX9_findFaces_91 rfl ?_
        refine n_getf (ji := 2) (t := 0) dX9_findFaces_92 zf_X9_19 k_6 rfl (by decide) rfl ?_
        refine z_iconst dX9_findFaces_95 ⟨by decide, by decide⟩ ?_
        refine z_iadd dX9_findFaces_96 ((h4.2 q7).2 q9).2.2.2.2.2.1 ?_
        refine n_putI (ji := 2) dX9_findFaces_97 zf_X9_19 k_6 rfl (by decide) rfl ?_
        refine n_iinc (lo' := [some (2, 6), some (0, v1), some (0, v2 + 1)]) dX9_findFaces_100 rfl (by decide) ((h4.2 q7).2 q9).2.2.2.2.2.2.1 rfl ?_
        refine z_goto (tgt := 17) dX9_findFaces_103 (by decide) ?_
        refine z_drop [some (2, 6), some (0, v1), some (0, v2 + 1)] ⟨rfl, rfl, rfl, trivial⟩ ?_
        exact ((h4.2 q7).2 q9).2.2.2.2.2.2.2
set_option maxRecDepth 20000 in
theorem V_X9_cubeBeside {a b c : Int}  {μ : z_Mem} {d : Nat} {K : Int → z_Mem → Prop} (h : z_ri m_X9_cubeBeside 3 [some (2, 6), some (0, a), some (0, b), some (0, c), some (0, 0)] μ (d + 1) K) : z_ci m_X9_cubeBeside [(2, 6), (0, a), (0, b), (0, c)] μ (d + 1) K := by
  show z_R m_X9_cubeBeside 0 [some (2, 6), some (0, a), some (0, b), some (0, c), none] [] z_n μ (d + 1) _
  refine z_iconst dX9_cubeBeside_0 ⟨by decide, by decide⟩ ?_
  refine n_istore (lo' := [some (2, 6), some (0, a), some (0, b), some (0, c), some (0, 0)]) dX9_cubeBeside_1 ⟨Nat.le_of_ble_eq_true rfl, Nat.le_of_ble_eq_true rfl⟩ rfl ?_
  refine z_drop [some (2, 6), some (0, a), some (0, b), some (0, c), some (0, 0)] ⟨rfl, rfl, rfl, rfl, rfl, trivial⟩ ?_
  exact h
set_option maxRecDepth 20000 in
theorem V_X9_cubeBeside_3 {v1 v2 v3 v4 : Int}  {μ : z_Mem} {d : Nat} {K : Int → z_Mem → Prop} (h : (μ 6 0 ≤ v4 → K (-1) μ) ∧ (v4 < μ 6 0 → z_ci m_X9_step [(0, v2), (0, 0)] μ d (fun x5 m3 => z_ci m_X9_step [(0, v3), (0, 0)] m3 d (fun x8 m6 => z_I (x5 + x8) ∧ (z_ci m_X9_isAway [(2, 6), (0, v1), (0, v4), (0, 0), (0, x5 + x8)] m6 d (fun x11 m9 => (x11 = 0 → z_I (v4 + 1) ∧ (z_ri m_X9_cubeBeside 3 [some (2, 6), some (0, v1), some (0, v2), some (0, v3), some (0, v4 + 1)] m9 (d + 1) K)) ∧ (¬ x11 = 0 → z_ci m_X9_step [(0, v2), (0, 1)] m9 d (fun x16 m14 => z_ci m_X9_step [(0, v3), (0, 1)] m14 d (fun x19 m17 => z_I (x16 + x19) ∧ (z_ci m_X9_isAway [(2, 6), (0, v1), (0, v4), (0, 1), (0, x16 + x19)] m17 d (fun x22 m20 => (x22 = 0 → z_I (v4 + 1) ∧ (z_ri m_X9_cubeBeside 3 [some (2, 6), some (0, v1), some (0, v2), some (0, v3), some (0, v4 + 1)] m20 (d + 1) K)) ∧ (¬ x22 = 0 → z_ci m_X9_step [(0, v2), (0, 2)] m20 d (fun x27 m25 => z_ci m_X9_step [(0, v3), (0, 2)] m25 d (fun x30 m28 => z_I (x27 + x30) ∧ (z_ci m_X9_isAway [(2, 6), (0, v1), (0, v4), (0, 2), (0, x27 + x30)] m28 d (fun x33 m31 => (x33 = 0 → z_I (v4 + 1) ∧ (z_ri m_X9_cubeBeside 3 [some (2, 6), some (0, v1), some (0, v2), some (0, v3), some (0, v4 + 1)] m31 (d + 1) K)) ∧ (¬ x33 = 0 → K v4 m31))))))))))))))))) : z_ri m_X9_cubeBeside 3 [some (2, 6), some (0, v1), some (0, v2), some (0, v3), some (0, v4)] μ (d + 1) K := by
  show z_R m_X9_cubeBeside 3 [some (2, 6), some (0, v1), some (0, v2), some (0, v3), some (0, v4)] [] z_n μ (d + 1) _
  refine z_iload dX9_cubeBeside_3 rfl ?_
  refine z_aload_n dX9_cubeBeside_5 rfl ?_
  refine n_getf (ji := 0) (t := 0) dX9_cubeBeside_6 zf_X9_9 k_6 rfl (by decide) rfl ?_
  refine z_icmp_ge (tgt := 87) dX9_cubeBeside_9 (by decide) (fun q1 => ?_) (fun q2 => ?_)
  · refine z_iconst dX9_cubeBeside_87 ⟨by decide, by decide⟩ ?_
    exact z_ireturn dX9_cubeBeside_88 rfl rfl ⟨_, rfl, (h.1 q1)⟩
  · refine z_aload_n dX9_cubeBeside_12 rfl ?_
    refine z_iload_n dX9_cubeBeside_13 rfl ?_
    refine z_iload dX9_cubeBeside_14 rfl ?_
    refine z_iconst dX9_cubeBeside_16 ⟨by decide, by decide⟩ ?_
    refine z_iload_n dX9_cubeBeside_17 rfl ?_
    refine z_iconst dX9_cubeBeside_18 ⟨by decide, by decide⟩ ?_
    refine n_sI (as := [(0, v2), (0, 0)]) (rest := [(0, 0), (0, v4), (0, v1), (2, 6)]) dX9_cubeBeside_19 zm_X9_step zs_X9_92 rfl rfl (Nat.le_of_ble_eq_true rfl) (Nat.le_of_ble_eq_true rfl) (h.2 q2) (fun x5 m3 h4 => ?_)
    refine z_iload_n dX9_cubeBeside_22 rfl ?_
    refine z_iconst dX9_cubeBeside_23 ⟨by decide, by decide⟩ ?_
    refine n_sI (as := [(0, v3), (0, 0)]) (rest := [(0, x5), (0, 0), (0, v4), (0, v1), (2, 6)]) dX9_cubeBeside_24 zm_X9_step zs_X9_92 rfl rfl (Nat.le_of_ble_eq_true rfl) (Nat.le_of_ble_eq_true rfl) h4 (fun x8 m6 h7 => ?_)
    refine z_iadd dX9_cubeBeside_27 h7.1 ?_
    refine n_vI (as := [(0, v1), (0, v4), (0, 0), (0, x5 + x8)]) (rest := []) dX9_cubeBeside_28 zm_X9_isAway zs_X9_95 k_6 (by decide) rfl rfl (Nat.le_of_ble_eq_true rfl) (Nat.le_of_ble_eq_true rfl) h7.2 (fun x11 m9 h10 => ?_)
    refine z_if_eq (tgt := 81) dX9_cubeBeside_31 (by decide) (fun q12 => ?_) (fun q13 => ?_)
    · refine n_iinc (lo' := [some (2, 6), some (0, v1), some (0, v2), some (0, v3), some (0, v4 + 1)]) dX9_cubeBeside_81 rfl (by decide) (h10.1 q12).1 rfl ?_
      refine z_goto (tgt := 3) dX9_cubeBeside_84 (by decide) ?_
      refine z_drop [some (2, 6), some (0, v1), some (0, v2), some (0, v3), some (0, v4 + 1)] ⟨rfl, rfl, rfl, rfl, rfl, trivial⟩ ?_
      exact (h10.1 q12).2
    · refine z_aload_n dX9_cubeBeside_34 rfl ?_
      refine z_iload_n dX9_cubeBeside_35 rfl ?_
      refine z_iload dX9_cubeBeside_36 rfl ?_
      refine z_iconst dX9_cubeBeside_38 ⟨by decide, by decide⟩ ?_
      refine z_iload_n dX9_cubeBeside_39 rfl ?_
      refine z_iconst dX9_cubeBeside_40 ⟨by decide, by decide⟩ ?_
      refine n_sI (as := [(0, v2), (0, 1)]) (rest := [(0, 1), (0, v4), (0, v1), (2, 6)]) dX9_cubeBeside_41 zm_X9_step zs_X9_92 rfl rfl (Nat.le_of_ble_eq_true rfl) (Nat.le_of_ble_eq_true rfl) (h10.2 q13) (fun x16 m14 h15 => ?_)
      refine z_iload_n dX9_cubeBeside_44 rfl ?_
      refine z_iconst dX9_cubeBeside_45 ⟨by decide, by decide⟩ ?_
      refine n_sI (as := [(0, v3), (0, 1)]) (rest := [(0, x16), (0, 1), (0, v4), (0, v1), (2, 6)]) dX9_cubeBeside_46 zm_X9_step zs_X9_92 rfl rfl (Nat.le_of_ble_eq_true rfl) (Nat.le_of_ble_eq_true rfl) h15 (fun x19 m17 h18 => ?_)
      refine z_iadd dX9_cubeBeside_49 h18.1 ?_
      refine n_vI (as := [(0, v1), (0, v4), (0, 1), (0, x16 + x19)]) (rest := []) dX9_cubeBeside_50 zm_X9_isAway zs_X9_95 k_6 (by decide) rfl rfl (Nat.le_of_ble_eq_true rfl) (Nat.le_of_ble_eq_true rfl) h18.2 (fun x22 m20 h21 => ?_)
      refine z_if_eq (tgt := 81) dX9_cubeBeside_53 (by decide) (fun q23 => ?_) (fun q24 => ?_)
      · refine n_iinc (lo' := [some (2, 6), some (0, v1), some (0, v2), some (0, v3), some (0, v4 + 1)]) dX9_cubeBeside_81 rfl (by decide) (h21.1 q23).1 rfl ?_
        refine z_goto (tgt := 3) dX9_cubeBeside_84 (by decide) ?_
        refine z_drop [some (2, 6), some (0, v1), some (0, v2), some (0, v3), some (0, v4 + 1)] ⟨rfl, rfl, rfl, rfl, rfl, trivial⟩ ?_
        exact (h21.1 q23).2
      · refine z_aload_n dX9_cubeBeside_56 rfl ?_
        refine z_iload_n dX9_cubeBeside_57 rfl ?_
        refine z_iload dX9_cubeBeside_58 rfl ?_
        refine z_iconst dX9_cubeBeside_60 ⟨by decide, by decide⟩ ?_
        refine z_iload_n dX9_cubeBeside_61 rfl ?_
        refine z_iconst dX9_cubeBeside_62 ⟨by decide, by decide⟩ ?_
        refine n_sI (as := [(0, v2), (0, 2)]) (rest := [(0, 2), (0, v4), (0, v1), (2, 6)]) dX9_cubeBeside_63 zm_X9_step zs_X9_92 rfl rfl (Nat.le_of_ble_eq_true rfl) (Nat.le_of_ble_eq_true rfl) (h21.2 q24) (fun x27 m25 h26 => ?_)
        refine z_iload_n dX9_cubeBeside_66 rfl ?_
        refine z_iconst dX9_cubeBeside_67 ⟨by decide, by decide⟩ ?_
        refine n_sI (as := [(0, v3), (0, 2)]) (rest := [(0, x27), (0, 2), (0, v4), (0, v1), (2, 6)]) dX9_cubeBeside_68 zm_X9_step zs_X9_92 rfl rfl (Nat.le_of_ble_eq_true rfl) (Nat.le_of_ble_eq_true rfl) h26 (fun x30 m28 h29 => ?_)
        refine z_iadd dX9_cubeBeside_71 h29.1 ?_
        refine n_vI (as := [(0, v1), (0, v4), (0, 2), (0, x27 + x30)]) (rest := []) dX9_cubeBeside_72 zm_X9_isAway zs_X9_95 k_6 (by decide) rfl rfl (Nat.le_of_ble_eq_true rfl) (Nat.le_of_ble_eq_true rfl) h29.2 (fun x33 m31 h32 => ?_)
        refine z_if_eq (tgt := 81) dX9_cubeBeside_75 (by decide) (fun q34 => ?_) (fun q35 => ?_)
        · refine n_iinc (lo' := [some (2, 6), some (0, v1), some (0, v2), some (0, v3), some (0, v4 + 1)]) dX9_cubeBeside_81 rfl (by decide) (h32.1 q34).1 rfl ?_
          refine z_goto (tgt := 3) dX9_cubeBeside_84 (by decide) ?_
          refine z_drop [some (2, 6), some (0, v1), some (0, v2), some (0, v3), some (0, v4 + 1)] ⟨rfl, rfl, rfl, rfl, rfl, trivial⟩ ?_
          exact (h32.1 q34).2
        · refine z_iload dX9_cubeBeside_78 rfl ?_
          exact z_ireturn dX9_cubeBeside_80 rfl rfl ⟨_, rfl, (h32.2 q35)⟩
set_option maxRecDepth 20000 in
theorem V_X9_isAway {a b c e : Int}  {μ : z_Mem} {d : Nat} {K : Int → z_Mem → Prop} (h : z_I (3 * b) ∧ (z_I ((3 * b) + c) ∧ (((0 : Int) ≤ (3 * b) + c ∧ (3 * b) + c < 21) ∧ (z_I (3 * a) ∧ (z_I ((3 * a) + c) ∧ (((0 : Int) ≤ (3 * a) + c ∧ (3 * a) + c < 21) ∧ (z_I ((μ 7 ((3 * a) + c)) + e) ∧ ((¬ μ 7 ((3 * b) + c) = (μ 7 ((3 * a) + c)) + e → K 0 μ) ∧ (μ 7 ((3 * b) + c) = (μ 7 ((3 * a) + c)) + e → K 1 μ))))))))) : z_ci m_X9_isAway [(2, 6), (0, a), (0, b), (0, c), (0, e)] μ d K := by
  show z_R m_X9_isAway 0 [some (2, 6), some (0, a), some (0, b), some (0, c), some (0, e)] [] z_n μ d _
  refine z_aload_n dX9_isAway_0 rfl ?_
  refine n_getp (ji := 1) dX9_isAway_1 zf_X9_15 k_6 rfl (by decide) rfl p_6_1 ?_
  refine z_iconst dX9_isAway_4 ⟨by decide, by decide⟩ ?_
  refine z_iload_n dX9_isAway_5 rfl ?_
  refine z_imul dX9_isAway_6 h.1 ?_
  refine z_iload_n dX9_isAway_7 rfl ?_
  refine z_iadd dX9_isAway_8 h.2.1 ?_
  refine n_iald dX9_isAway_9 k_7 h.2.2.1 ?_
  refine z_aload_n dX9_isAway_10 rfl ?_
  refine n_getp (ji := 1) dX9_isAway_11 zf_X9_15 k_6 rfl (by decide) rfl p_6_1 ?_
  refine z_iconst dX9_isAway_14 ⟨by decide, by decide⟩ ?_
  refine z_iload_n dX9_isAway_15 rfl ?_
  refine z_imul dX9_isAway_16 h.2.2.2.1 ?_
  refine z_iload_n dX9_isAway_17 rfl ?_
  refine z_iadd dX9_isAway_18 h.2.2.2.2.1 ?_
  refine n_iald dX9_isAway_19 k_7 h.2.2.2.2.2.1 ?_
  refine z_iload dX9_isAway_20 rfl ?_
  refine z_iadd dX9_isAway_22 h.2.2.2.2.2.2.1 ?_
  refine z_icmp_ne (tgt := 30) dX9_isAway_23 (by decide) (fun q1 => ?_) (fun q2 => ?_)
  · refine z_iconst dX9_isAway_30 ⟨by decide, by decide⟩ ?_
    exact z_zreturn dX9_isAway_31 rfl rfl (by decide) ⟨_, rfl, (h.2.2.2.2.2.2.2.1 q1)⟩
  · refine z_iconst dX9_isAway_26 ⟨by decide, by decide⟩ ?_
    refine z_goto (tgt := 31) dX9_isAway_27 (by decide) ?_
    exact z_zreturn dX9_isAway_31 rfl rfl (by decide) ⟨_, rfl, (h.2.2.2.2.2.2.2.2 q2)⟩
set_option maxRecDepth 20000 in
theorem V_X9_step {a b : Int}  {μ : z_Mem} {d : Nat} {K : Int → z_Mem → Prop} (h : (a = (-1) → K 0 μ) ∧ (¬ a = (-1) → (a / 2 = b → (¬ a % 2 = 0 → K (-1) μ) ∧ (a % 2 = 0 → K 1 μ)) ∧ (¬ a / 2 = b → K 0 μ))) : z_ci m_X9_step [(0, a), (0, b)] μ d K := by
  show z_R m_X9_step 0 [some (0, a), some (0, b)] [] z_n μ d _
  refine z_iload_n dX9_step_0 rfl ?_
  refine z_iconst dX9_step_1 ⟨by decide, by decide⟩ ?_
  refine z_icmp_eq (tgt := 12) dX9_step_2 (by decide) (fun q1 => ?_) (fun q2 => ?_)
  · refine z_iconst dX9_step_12 ⟨by decide, by decide⟩ ?_
    exact z_ireturn dX9_step_13 rfl rfl ⟨_, rfl, (h.1 q1)⟩
  · refine z_iload_n dX9_step_5 rfl ?_
    refine z_iconst dX9_step_6 ⟨by decide, by decide⟩ ?_
    refine n_ishr (m := 2) dX9_step_7 (by decide) (by decide) ?_
    refine z_iload_n dX9_step_8 rfl ?_
    refine z_icmp_eq (tgt := 14) dX9_step_9 (by decide) (fun q3 => ?_) (fun q4 => ?_)
    · refine z_iload_n dX9_step_14 rfl ?_
      refine z_iconst dX9_step_15 ⟨by decide, by decide⟩ ?_
      refine n_iandm (k := 1) (m := 2) dX9_step_16 (by decide) (by decide) ?_
      refine z_if_ne (tgt := 24) dX9_step_17 (by decide) (fun q5 => ?_) (fun q6 => ?_)
      · refine z_iconst dX9_step_24 ⟨by decide, by decide⟩ ?_
        exact z_ireturn dX9_step_25 rfl rfl ⟨_, rfl, (((h.2 q2).1 q3).1 q5)⟩
      · refine z_iconst dX9_step_20 ⟨by decide, by decide⟩ ?_
        refine z_goto (tgt := 25) dX9_step_21 (by decide) ?_
        exact z_ireturn dX9_step_25 rfl rfl ⟨_, rfl, (((h.2 q2).1 q3).2 q6)⟩
    · refine z_iconst dX9_step_12 ⟨by decide, by decide⟩ ?_
      exact z_ireturn dX9_step_13 rfl rfl ⟨_, rfl, ((h.2 q2).2 q4)⟩
set_option maxRecDepth 20000 in
theorem V_X9_findEdges  {μ : z_Mem} {d : Nat} {K : z_Mem → Prop} (h : z_rn m_X9_findEdges 7 [some (2, 6), some (0, 0), none] (z_st μ 6 8 0) (d + 1) K) : z_cn m_X9_findEdges [(2, 6)] μ (d + 1) K := by
  show z_R m_X9_findEdges 0 [some (2, 6), none, none] [] z_n μ (d + 1) _
  refine z_aload_n dX9_findEdges_0 rfl ?_
  refine z_iconst dX9_findEdges_1 ⟨by decide, by decide⟩ ?_
  refine n_putI (ji := 8) dX9_findEdges_2 zf_X9_37 k_6 rfl (by decide) rfl ?_
  refine z_iconst dX9_findEdges_5 ⟨by decide, by decide⟩ ?_
  refine n_istore_n (lo' := [some (2, 6), some (0, 0), none]) dX9_findEdges_6 ⟨Nat.le_of_ble_eq_true rfl, Nat.le_of_ble_eq_true rfl⟩ rfl ?_
  refine z_drop [some (2, 6), some (0, 0), none] ⟨rfl, rfl, trivial⟩ ?_
  exact h
set_option maxRecDepth 20000 in
theorem V_X9_findEdges_7 {v1 : Int}  {μ : z_Mem} {d : Nat} {K : z_Mem → Prop} (h : z_I (4 * (μ 6 2)) ∧ ((4 * (μ 6 2) ≤ v1 → z_rn m_X9_findEdges 32 [some (2, 6), some (0, 0), none] μ (d + 1) K) ∧ (v1 < 4 * (μ 6 2) → ((0 : Int) ≤ v1 ∧ v1 < 120) ∧ (z_I (v1 + 1) ∧ (z_rn m_X9_findEdges 7 [some (2, 6), some (0, v1 + 1), none] (z_st μ 12 v1 (-1)) (d + 1) K))))) : z_rn m_X9_findEdges 7 [some (2, 6), some (0, v1), none] μ (d + 1) K := by
  show z_R m_X9_findEdges 7 [some (2, 6), some (0, v1), none] [] z_n μ (d + 1) _
  refine z_iload_n dX9_findEdges_7 rfl ?_
  refine z_iconst dX9_findEdges_8 ⟨by decide, by decide⟩ ?_
  refine z_aload_n dX9_findEdges_9 rfl ?_
  refine n_getf (ji := 2) (t := 0) dX9_findEdges_10 zf_X9_19 k_6 rfl (by decide) rfl ?_
  refine z_imul dX9_findEdges_13 h.1 ?_
  refine z_icmp_ge (tgt := 30) dX9_findEdges_14 (by decide) (fun q1 => ?_) (fun q2 => ?_)
  · refine z_iconst dX9_findEdges_30 ⟨by decide, by decide⟩ ?_
    refine n_istore_n (lo' := [some (2, 6), some (0, 0), none]) dX9_findEdges_31 ⟨Nat.le_of_ble_eq_true rfl, Nat.le_of_ble_eq_true rfl⟩ rfl ?_
    refine z_drop [some (2, 6), some (0, 0), none] ⟨rfl, rfl, trivial⟩ ?_
    exact (h.2.1 q1)
  · refine z_aload_n dX9_findEdges_17 rfl ?_
    refine n_getp (ji := 7) dX9_findEdges_18 zf_X9_34 k_6 rfl (by decide) rfl p_6_7 ?_
    refine z_iload_n dX9_findEdges_21 rfl ?_
    refine z_iconst dX9_findEdges_22 ⟨by decide, by decide⟩ ?_
    refine n_iast dX9_findEdges_23 k_12 (h.2.2 q2).1 ?_
    refine n_iinc (lo' := [some (2, 6), some (0, v1 + 1), none]) dX9_findEdges_24 rfl (by decide) (h.2.2 q2).2.1 rfl ?_
    refine z_goto (tgt := 7) dX9_findEdges_27 (by decide) ?_
    refine z_drop [some (2, 6), some (0, v1 + 1), none] ⟨rfl, rfl, trivial⟩ ?_
    exact (h.2.2 q2).2.2
set_option maxRecDepth 20000 in
theorem V_X9_findEdges_32 {v1 : Int}  {μ : z_Mem} {d : Nat} {K : z_Mem → Prop} (h : z_I (4 * (μ 6 2)) ∧ ((4 * (μ 6 2) ≤ v1 → K μ) ∧ (v1 < 4 * (μ 6 2) → z_ci m_X9_joinSide [(2, 6), (0, v1)] μ d (fun x5 m3 => ((0 : Int) ≤ v1 ∧ v1 < 120) ∧ ((¬ m3 12 v1 = (-1) → z_I (v1 + 1) ∧ (z_rn m_X9_findEdges 32 [some (2, 6), some (0, v1 + 1), none] m3 (d + 1) K)) ∧ (m3 12 v1 = (-1) → (60 ≤ m3 6 8 → z_I (v1 + 1) ∧ (z_rn m_X9_findEdges 32 [some (2, 6), some (0, v1 + 1), none] m3 (d + 1) K)) ∧ (m3 6 8 < 60 → ((0 : Int) ≤ v1 ∧ v1 < 120) ∧ (((0 : Int) ≤ v1 ∧ v1 < 120) ∧ (((0 : Int) ≤ (z_st m3 12 v1 (m3 6 8)) 11 v1 ∧ (z_st m3 12 v1 (m3 6 8)) 11 v1 < 120) ∧ (z_I (2 * ((z_st (z_st m3 12 v1 (m3 6 8)) 12 ((z_st m3 12 v1 (m3 6 8)) 11 v1) ((z_st m3 12 v1 (m3 6 8)) 6 8)) 6 8)) ∧ (((0 : Int) ≤ 2 * ((z_st (z_st m3 12 v1 (m3 6 8)) 12 ((z_st m3 12 v1 (m3 6 8)) 11 v1) ((z_st m3 12 v1 (m3 6 8)) 6 8)) 6 8) ∧ 2 * ((z_st (z_st m3 12 v1 (m3 6 8)) 12 ((z_st m3 12 v1 (m3 6 8)) 11 v1) ((z_st m3 12 v1 (m3 6 8)) 6 8)) 6 8) < 120) ∧ (z_I (2 * ((z_st (z_st (z_st m3 12 v1 (m3 6 8)) 12 ((z_st m3 12 v1 (m3 6 8)) 11 v1) ((z_st m3 12 v1 (m3 6 8)) 6 8)) 13 (2 * ((z_st (z_st m3 12 v1 (m3 6 8)) 12 ((z_st m3 12 v1 (m3 6 8)) 11 v1) ((z_st m3 12 v1 (m3 6 8)) 6 8)) 6 8)) v1) 6 8)) ∧ (z_I ((2 * ((z_st (z_st (z_st m3 12 v1 (m3 6 8)) 12 ((z_st m3 12 v1 (m3 6 8)) 11 v1) ((z_st m3 12 v1 (m3 6 8)) 6 8)) 13 (2 * ((z_st (z_st m3 12 v1 (m3 6 8)) 12 ((z_st m3 12 v1 (m3 6 8)) 11 v1) ((z_st m3 12 v1 (m3 6 8)) 6 8)) 6 8)) v1) 6 8)) + 1) ∧ (((0 : Int) ≤ v1 ∧ v1 < 120) ∧ (((0 : Int) ≤ (2 * ((z_st (z_st (z_st m3 12 v1 (m3 6 8)) 12 ((z_st m3 12 v1 (m3 6 8)) 11 v1) ((z_st m3 12 v1 (m3 6 8)) 6 8)) 13 (2 * ((z_st (z_st m3 12 v1 (m3 6 8)) 12 ((z_st m3 12 v1 (m3 6 8)) 11 v1) ((z_st m3 12 v1 (m3 6 8)) 6 8)) 6 8)) v1) 6 8)) + 1 ∧ (2 * ((z_st (z_st (z_st m3 12 v1 (m3 6 8)) 12 ((z_st m3 12 v1 (m3 6 8)) 11 v1) ((z_st m3 12 v1 (m3 6 8)) 6 8)) 13 (2 * ((z_st (z_st m3 12 v1 (m3 6 8)) 12 ((z_st m3 12 v1 (m3 6 8)) 11 v1) ((z_st m3 12 v1 (m3 6 8)) 6 8)) 6 8)) v1) 6 8)) + 1 < 120) ∧ (((0 : Int) ≤ (z_st (z_st (z_st (z_st m3 12 v1 (m3 6 8)) 12 ((z_st m3 12 v1 (m3 6 8)) 11 v1) ((z_st m3 12 v1 (m3 6 8)) 6 8)) 13 (2 * ((z_st (z_st m3 12 v1 (m3 6 8)) 12 ((z_st m3 12 v1 (m3 6 8)) 11 v1) ((z_st m3 12 v1 (m3 6 8)) 6 8)) 6 8)) v1) 13 ((2 * ((z_st (z_st (z_st m3 12 v1 (m3 6 8)) 12 ((z_st m3 12 v1 (m3 6 8)) 11 v1) ((z_st m3 12 v1 (m3 6 8)) 6 8)) 13 (2 * ((z_st (z_st m3 12 v1 (m3 6 8)) 12 ((z_st m3 12 v1 (m3 6 8)) 11 v1) ((z_st m3 12 v1 (m3 6 8)) 6 8)) 6 8)) v1) 6 8)) + 1) ((z_st (z_st (z_st m3 12 v1 (m3 6 8)) 12 ((z_st m3 12 v1 (m3 6 8)) 11 v1) ((z_st m3 12 v1 (m3 6 8)) 6 8)) 13 (2 * ((z_st (z_st m3 12 v1 (m3 6 8)) 12 ((z_st m3 12 v1 (m3 6 8)) 11 v1) ((z_st m3 12 v1 (m3 6 8)) 6 8)) 6 8)) v1) 11 v1)) 6 8 ∧ (z_st (z_st (z_st (z_st m3 12 v1 (m3 6 8)) 12 ((z_st m3 12 v1 (m3 6 8)) 11 v1) ((z_st m3 12 v1 (m3 6 8)) 6 8)) 13 (2 * ((z_st (z_st m3 12 v1 (m3 6 8)) 12 ((z_st m3 12 v1 (m3 6 8)) 11 v1) ((z_st m3 12 v1 (m3 6 8)) 6 8)) 6 8)) v1) 13 ((2 * ((z_st (z_st (z_st m3 12 v1 (m3 6 8)) 12 ((z_st m3 12 v1 (m3 6 8)) 11 v1) ((z_st m3 12 v1 (m3 6 8)) 6 8)) 13 (2 * ((z_st (z_st m3 12 v1 (m3 6 8)) 12 ((z_st m3 12 v1 (m3 6 8)) 11 v1) ((z_st m3 12 v1 (m3 6 8)) 6 8)) 6 8)) v1) 6 8)) + 1) ((z_st (z_st (z_st m3 12 v1 (m3 6 8)) 12 ((z_st m3 12 v1 (m3 6 8)) 11 v1) ((z_st m3 12 v1 (m3 6 8)) 6 8)) 13 (2 * ((z_st (z_st m3 12 v1 (m3 6 8)) 12 ((z_st m3 12 v1 (m3 6 8)) 11 v1) ((z_st m3 12 v1 (m3 6 8)) 6 8)) 6 8)) v1) 11 v1)) 6 8 < 60) ∧ (z_I (((z_st (z_st (z_st (z_st (z_st m3 12 v1 (m3 6 8)) 12 ((z_st m3 12 v1 (m3 6 8)) 11 v1) ((z_st m3 12 v1 (m3 6 8)) 6 8)) 13 (2 * ((z_st (z_st m3 12 v1 (m3 6 8)) 12 ((z_st m3 12 v1 (m3 6 8)) 11 v1) ((z_st m3 12 v1 (m3 6 8)) 6 8)) 6 8)) v1) 13 ((2 * ((z_st (z_st (z_st m3 12 v1 (m3 6 8)) 12 ((z_st m3 12 v1 (m3 6 8)) 11 v1) ((z_st m3 12 v1 (m3 6 8)) 6 8)) 13 (2 * ((z_st (z_st m3 12 v1 (m3 6 8)) 12 ((z_st m3 12 v1 (m3 6 8)) 11 v1) ((z_st m3 12 v1 (m3 6 8)) 6 8)) 6 8)) v1) 6 8)) + 1) ((z_st (z_st (z_st m3 12 v1 (m3 6 8)) 12 ((z_st m3 12 v1 (m3 6 8)) 11 v1) ((z_st m3 12 v1 (m3 6 8)) 6 8)) 13 (2 * ((z_st (z_st m3 12 v1 (m3 6 8)) 12 ((z_st m3 12 v1 (m3 6 8)) 11 v1) ((z_st m3 12 v1 (m3 6 8)) 6 8)) 6 8)) v1) 11 v1)) 14 ((z_st (z_st (z_st (z_st m3 12 v1 (m3 6 8)) 12 ((z_st m3 12 v1 (m3 6 8)) 11 v1) ((z_st m3 12 v1 (m3 6 8)) 6 8)) 13 (2 * ((z_st (z_st m3 12 v1 (m3 6 8)) 12 ((z_st m3 12 v1 (m3 6 8)) 11 v1) ((z_st m3 12 v1 (m3 6 8)) 6 8)) 6 8)) v1) 13 ((2 * ((z_st (z_st (z_st m3 12 v1 (m3 6 8)) 12 ((z_st m3 12 v1 (m3 6 8)) 11 v1) ((z_st m3 12 v1 (m3 6 8)) 6 8)) 13 (2 * ((z_st (z_st m3 12 v1 (m3 6 8)) 12 ((z_st m3 12 v1 (m3 6 8)) 11 v1) ((z_st m3 12 v1 (m3 6 8)) 6 8)) 6 8)) v1) 6 8)) + 1) ((z_st (z_st (z_st m3 12 v1 (m3 6 8)) 12 ((z_st m3 12 v1 (m3 6 8)) 11 v1) ((z_st m3 12 v1 (m3 6 8)) 6 8)) 13 (2 * ((z_st (z_st m3 12 v1 (m3 6 8)) 12 ((z_st m3 12 v1 (m3 6 8)) 11 v1) ((z_st m3 12 v1 (m3 6 8)) 6 8)) 6 8)) v1) 11 v1)) 6 8) x5) 6 8) + 1) ∧ (z_I (v1 + 1) ∧ (z_rn m_X9_findEdges 32 [some (2, 6), some (0, v1 + 1), none] (z_st (z_st (z_st (z_st (z_st (z_st m3 12 v1 (m3 6 8)) 12 ((z_st m3 12 v1 (m3 6 8)) 11 v1) ((z_st m3 12 v1 (m3 6 8)) 6 8)) 13 (2 * ((z_st (z_st m3 12 v1 (m3 6 8)) 12 ((z_st m3 12 v1 (m3 6 8)) 11 v1) ((z_st m3 12 v1 (m3 6 8)) 6 8)) 6 8)) v1) 13 ((2 * ((z_st (z_st (z_st m3 12 v1 (m3 6 8)) 12 ((z_st m3 12 v1 (m3 6 8)) 11 v1) ((z_st m3 12 v1 (m3 6 8)) 6 8)) 13 (2 * ((z_st (z_st m3 12 v1 (m3 6 8)) 12 ((z_st m3 12 v1 (m3 6 8)) 11 v1) ((z_st m3 12 v1 (m3 6 8)) 6 8)) 6 8)) v1) 6 8)) + 1) ((z_st (z_st (z_st m3 12 v1 (m3 6 8)) 12 ((z_st m3 12 v1 (m3 6 8)) 11 v1) ((z_st m3 12 v1 (m3 6 8)) 6 8)) 13 (2 * ((z_st (z_st m3 12 v1 (m3 6 8)) 12 ((z_st m3 12 v1 (m3 6 8)) 11 v1) ((z_st m3 12 v1 (m3 6 8)) 6 8)) 6 8)) v1) 11 v1)) 14 ((z_st (z_st (z_st (z_st m3 12 v1 (m3 6 8)) 12 ((z_st m3 12 v1 (m3 6 8)) 11 v1) ((z_st m3 12 v1 (m3 6 8)) 6 8)) 13 (2 * ((z_st (z_st m3 12 v1 (m3 6 8)) 12 ((z_st m3 12 v1 (m3 6 8)) 11 v1) ((z_st m3 12 v1 (m3 6 8)) 6 8)) 6 8)) v1) 13 ((2 * ((z_st (z_st (z_st m3 12 v1 (m3 6 8)) 12 ((z_st m3 12 v1 (m3 6 8)) 11 v1) ((z_st m3 12 v1 (m3 6 8)) 6 8)) 13 (2 * ((z_st (z_st m3 12 v1 (m3 6 8)) 12 ((z_st m3 12 v1 (m3 6 8)) 11 v1) ((z_st m3 12 v1 (m3 6 8)) 6 8)) 6 8)) v1) 6 8)) + 1) ((z_st (z_st (z_st m3 12 v1 (m3 6 8)) 12 ((z_st m3 12 v1 (m3 6 8)) 11 v1) ((z_st m3 12 v1 (m3 6 8)) 6 8)) 13 (2 * ((z_st (z_st m3 12 v1 (m3 6 8)) 12 ((z_st m3 12 v1 (m3 6 8)) 11 v1) ((z_st m3 12 v1 (m3 6 8)) 6 8)) 6 8)) v1) 11 v1)) 6 8) x5) 6 8 (((z_st (z_st (z_st (z_st (z_st m3 12 v1 (m3 6 8)) 12 ((z_st m3 12 v1 (m3 6 8)) 11 v1) ((z_st m3 12 v1 (m3 6 8)) 6 8)) 13 (2 * ((z_st (z_st m3 12 v1 (m3 6 8)) 12 ((z_st m3 12 v1 (m3 6 8)) 11 v1) ((z_st m3 12 v1 (m3 6 8)) 6 8)) 6 8)) v1) 13 ((2 * ((z_st (z_st (z_st m3 12 v1 (m3 6 8)) 12 ((z_st m3 12 v1 (m3 6 8)) 11 v1) ((z_st m3 12 v1 (m3 6 8)) 6 8)) 13 (2 * ((z_st (z_st m3 12 v1 (m3 6 8)) 12 ((z_st m3 12 v1 (m3 6 8)) 11 v1) ((z_st m3 12 v1 (m3 6 8)) 6 8)) 6 8)) v1) 6 8)) + 1) ((z_st (z_st (z_st m3 12 v1 (m3 6 8)) 12 ((z_st m3 12 v1 (m3 6 8)) 11 v1) ((z_st m3 12 v1 (m3 6 8)) 6 8)) 13 (2 * ((z_st (z_st m3 12 v1 (m3 6 8)) 12 ((z_st m3 12 v1 (m3 6 8)) 11 v1) ((z_st m3 12 v1 (m3 6 8)) 6 8)) 6 8)) v1) 11 v1)) 14 ((z_st (z_st (z_st (z_st m3 12 v1 (m3 6 8)) 12 ((z_st m3 12 v1 (m3 6 8)) 11 v1) ((z_st m3 12 v1 (m3 6 8)) 6 8)) 13 (2 * ((z_st (z_st m3 12 v1 (m3 6 8)) 12 ((z_st m3 12 v1 (m3 6 8)) 11 v1) ((z_st m3 12 v1 (m3 6 8)) 6 8)) 6 8)) v1) 13 ((2 * ((z_st (z_st (z_st m3 12 v1 (m3 6 8)) 12 ((z_st m3 12 v1 (m3 6 8)) 11 v1) ((z_st m3 12 v1 (m3 6 8)) 6 8)) 13 (2 * ((z_st (z_st m3 12 v1 (m3 6 8)) 12 ((z_st m3 12 v1 (m3 6 8)) 11 v1) ((z_st m3 12 v1 (m3 6 8)) 6 8)) 6 8)) v1) 6 8)) + 1) ((z_st (z_st (z_st m3 12 v1 (m3 6 8)) 12 ((z_st m3 12 v1 (m3 6 8)) 11 v1) ((z_st m3 12 v1 (m3 6 8)) 6 8)) 13 (2 * ((z_st (z_st m3 12 v1 (m3 6 8)) 12 ((z_st m3 12 v1 (m3 6 8)) 11 v1) ((z_st m3 12 v1 (m3 6 8)) 6 8)) 6 8)) v1) 11 v1)) 6 8) x5) 6 8) + 1)) (d + 1) K))))))))))))))))))) : z_rn m_X9_findEdges 32 [some (2, 6), some (0, v1), none] μ (d + 1) K := by
  show z_R m_X9_findEdges 32 [some (2, 6), some (0, v1), none] [] z_n μ (d + 1) _
  refine z_iload_n dX9_findEdges_32 rfl ?_
  refine z_iconst dX9_findEdges_33 ⟨by decide, by decide⟩ ?_
  refine z_aload_n dX9_findEdges_34 rfl ?_
  refine n_getf (ji := 2) (t := 0) dX9_findEdges_35 zf_X9_19 k_6 rfl (by decide) rfl ?_
  refine z_imul dX9_findEdges_38 h.1 ?_
  refine z_icmp_ge (tgt := 149) dX9_findEdges_39 (by decide) (fun q1 => ?_) (fun q2 => ?_)
  · exact z_return dX9_findEdges_149 rfl rfl ⟨rfl, (h.2.1 q1)⟩
  · refine z_aload_n dX9_findEdges_42 rfl ?_
    refine z_iload_n dX9_findEdges_43 rfl ?_
    refine n_vI (as := [(0, v1)]) (rest := []) dX9_findEdges_44 zm_X9_joinSide zs_X9_99 k_6 (by decide) rfl rfl (Nat.le_of_ble_eq_true rfl) (Nat.le_of_ble_eq_true rfl) (h.2.2 q2) (fun x5 m3 h4 => ?_)
    refine n_istore_n (lo' := [some (2, 6), some (0, v1), some (0, x5)]) dX9_findEdges_47 ⟨Nat.le_of_ble_eq_true rfl, Nat.le_of_ble_eq_true rfl⟩ rfl ?_
    refine z_aload_n dX9_findEdges_48 rfl ?_
    refine n_getp (ji := 7) dX9_findEdges_49 zf_X9_34 k_6 rfl (by decide) rfl p_6_7 ?_
    refine z_iload_n dX9_findEdges_52 rfl ?_
    refine n_iald dX9_findEdges_53 k_12 h4.1 ?_
    refine z_iconst dX9_findEdges_54 ⟨by decide, by decide⟩ ?_
    refine z_icmp_ne (tgt := 143) dX9_findEdges_55 (by decide) (fun q6 => ?_) (fun q7 => ?_)
    · refine n_iinc (lo' := [some (2, 6), some (0, v1 + 1), some (0, x5)]) dX9_findEdges_143 rfl (by decide) (h4.2.1 q6).1 rfl ?_
      refine z_goto (tgt := 32) dX9_findEdges_146 (by decide) ?_
      refine z_drop [some (2, 6), some (0, v1 + 1), none] ⟨rfl, rfl, trivial⟩ ?_
      exact (h4.2.1 q6).2
    · refine z_aload_n dX9_findEdges_58 rfl ?_
      refine n_getf (ji := 8) (t := 0) dX9_findEdges_59 zf_X9_37 k_6 rfl (by decide) rfl ?_
      refine z_bipush dX9_findEdges_62 (by decide) ?_
      refine z_icmp_ge (tgt := 143) dX9_findEdges_64 (by decide) (fun q8 => ?_) (fun q9 => ?_)
      · refine n_iinc (lo' := [some (2, 6), some (0, v1 + 1), some (0, x5)]) dX9_findEdges_143 rfl (by decide) ((h4.2.2 q7).1 q8).1 rfl ?_
        refine z_goto (tgt := 32) dX9_findEdges_146 (by decide) ?_
        refine z_drop [some (2, 6), some (0, v1 + 1), none] ⟨rfl, rfl, trivial⟩ ?_
        exact ((h4.2.2 q7).1 q8).2
      · refine z_aload_n dX9_findEdges_67 rfl ?_
        refine n_getp (ji := 7) dX9_findEdges_68 zf_X9_34 k_6 rfl (by decide) rfl p_6_7 ?_
        refine z_iload_n dX9_findEdges_71 rfl ?_
        refine z_aload_n dX9_findEdges_72 rfl ?_
        refine n_getf (ji := 8) (t := 0) dX9_findEdges_73 zf_X9_37 k_6 rfl (by decide) rfl ?_
        refine n_iast dX9_findEdges_76 k_12 ((h4.2.2 q7).2 q9).1 ?_
        refine z_aload_n dX9_findEdges_77 rfl ?_
        refine n_getp (ji := 7) dX9_findEdges_78 zf_X9_34 k_6 rfl (by decide) rfl p_6_7 ?_
        refine z_aload_n dX9_findEdges_81 rfl ?_
        refine n_getp (ji := 6) dX9_findEdges_82 zf_X9_31 k_6 rfl (by decide) rfl p_6_6 ?_
        refine z_iload_n dX9_findEdges_85 rfl ?_
        refine n_iald dX9_findEdges_86 k_11 ((h4.2.2 q7).2 q9).2.1 ?_
        refine z_aload_n dX9_findEdges_87 rfl ?_
        refine n_getf (ji := 8) (t := 0) dX9_findEdges_88 zf_X9_37 k_6 rfl (by decide) rfl ?_
        refine n_iast dX9_findEdges_91 k_12 ((h4.2.2 q7).2 q9).2.2.1 ?_
        refine z_aload_n dX9_findEdges_92 rfl ?_
        refine n_getp (ji := 9) dX9_findEdges_93 zf_X9_40 k_6 rfl (by decide) rfl p_6_9 ?_
        refine z_iconst dX9_findEdges_96 ⟨by decide, by decide⟩ ?_
        refine z_aload_n dX9_findEdges_97 rfl ?_
        refine n_getf (ji := 8) (t := 0) dX9_findEdges_98 zf_X9_37 k_6 rfl (by decide) rfl ?_
        refine z_imul dX9_findEdges_101 ((h4.2.2 q7).2 q9).2.2.2.1 ?_
        refine z_iload_n dX9_findEdges_102 rfl ?_
        refine n_iast dX9_findEdges_103 k_13 ((h4.2.2 q7).2 q9).2.2.2.2.1 ?_
        refine z_aload_n dX9_findEdges_104 rfl ?_
        refine n_getp (ji := 9) dX9_findEdges_105 zf_X9_40 k_6 rfl (by decide) rfl p_6_9 ?_
        refine z_iconst dX9_findEdges_108 ⟨by decide, by decide⟩ ?_
        refine z_aload_n dX9_findEdges_109 rfl ?_
        refine n_getf (ji := 8) (t := 0) dX9_findEdges_110 zf_X9_37 k_6 rfl (by decide) rfl ?_
        refine z_imul dX9_findEdges_113 ((h4.2.2 q7).2 q9).2.2.2.2.2.1 ?_
        refine z_iconst dX9_findEdges_114 ⟨by decide, by decide⟩ ?_
        refine z_iadd dX9_findEdges_115 ((h4.2.2 q7).2 q9).2.2.2.2.2.2.1 ?_
        refine z_aload_n dX9_findEdges_116 rfl ?_
        refine n_getp (ji := 6) dX9_findEdges_117 zf_X9_31 k_6 rfl (by decide) rfl p_6_6 ?_
        refine z_iload_n dX9_findEdges_120 rfl ?_
        refine n_iald dX9_findEdges_121 k_11 ((h4.2.2 q7).2 q9).2.2.2.2.2.2.2.1 ?_
        refine n_iast dX9_findEdges_122 k_13 ((h4.2.2 q7).2 q9).2.2.2.2.2.2.2.2.1 ?_
        refine z_aload_n dX9_findEdges_123 rfl ?_
        refine n_getp (ji := 10) dX9_findEdges_124 zf_X9_43 k_6 rfl (by decide) rfl p_6_10 ?_
        refine z_aload_n dX9_findEdges_127 rfl ?_
        refine n_getf (ji := 8) (t := 0) dX9_findEdges_128 zf_X9_37 k_6 rfl (by decide) rfl ?_
        refine z_iload_n dX9_findEdges_131 rfl ?_
        refine n_iast dX9_findEdges_132 k_14 ((h4.2.2 q7).2 q9).2.2.2.2.2.2.2.2.2.1 ?_
        refine z_aload_n dX9_findEdges_133 rfl ?_
        refine z_dup dX9_findEdges_134 rfl ?_
        refine n_getf (ji := 8) (t := 0) dX9_findEdges_135 zf_X9_37 k_6 rfl (by decide) rfl ?_
        refine z_iconst dX9_findEdges_138 ⟨by decide, by decide⟩ ?_
        refine z_iadd dX9_findEdges_139 ((h4.2.2 q7).2 q9).2.2.2.2.2.2.2.2.2.2.1 ?_
        refine n_putI (ji := 8) dX9_findEdges_140 zf_X9_37 k_6 rfl (by decide) rfl ?_
        refine n_iinc (lo' := [some (2, 6), some (0, v1 + 1), some (0, x5)]) dX9_findEdges_143 rfl (by decide) ((h4.2.2 q7).2 q9).2.2.2.2.2.2.2.2.2.2.2.1 rfl ?_
        refine z_goto (tgt := 32) dX9_findEdges_146 (by decide) ?_
        refine z_drop [some (2, 6), some (0, v1 + 1), none] ⟨rfl, rfl, trivial⟩ ?_
        exact ((h4.2.2 q7).2 q9).2.2.2.2.2.2.2.2.2.2.2.2
set_option maxRecDepth 20000 in
theorem V_X9_joinSide {a : Int}  {μ : z_Mem} {d : Nat} {K : Int → z_Mem → Prop} (h : ((0 : Int) ≤ a / 4 ∧ a / 4 < 30) ∧ (((0 : Int) ≤ a / 4 ∧ a / 4 < 30) ∧ (z_I (4 * (μ 10 (a / 4))) ∧ (z_I ((4 * (μ 10 (a / 4))) + (a % 4)) ∧ (((0 : Int) ≤ (4 * (μ 10 (a / 4))) + (a % 4) ∧ (4 * (μ 10 (a / 4))) + (a % 4) < 24) ∧ (z_ci m_X9_cubeBeside [(2, 6), (0, μ 9 (a / 4)), (0, μ 10 (a / 4)), (0, z_S 0 ((4 * (μ 10 (a / 4))) + (a % 4)))] μ d (fun x3 m1 => z_ci m_X9_cubeBeside [(2, 6), (0, μ 9 (a / 4)), (0, z_S 0 ((4 * (μ 10 (a / 4))) + (a % 4))), (0, (-1))] m1 d (fun x6 m4 => (x3 = (-1) → (x6 = (-1) → z_ci m_X9_slotOf [(2, 6), (0, μ 9 (a / 4)), (0, z_S 0 ((4 * (μ 10 (a / 4))) + (a % 4))), (0, μ 10 (a / 4))] m4 d (fun x13 m11 => ((0 : Int) ≤ a ∧ a < 120) ∧ (K 0 (z_st m11 11 a x13)))) ∧ (¬ x6 = (-1) → ((0 : Int) ≤ z_S 0 ((4 * (μ 10 (a / 4))) + (a % 4)) ∧ (0 : Int) ≤ 1) ∧ (z_ci m_X9_slotOf [(2, 6), (0, x6), (0, μ 10 (a / 4)), (0, ((((z_S 0 ((4 * (μ 10 (a / 4))) + (a % 4)) : Int).toNat ^^^ (1 : Int).toNat : Nat)) : Int))] m4 d (fun x16 m14 => ((0 : Int) ≤ a ∧ a < 120) ∧ (K 1 (z_st m14 11 a x16)))))) ∧ (¬ x3 = (-1) → ((0 : Int) ≤ z_S 0 ((4 * (μ 10 (a / 4))) + (a % 4)) ∧ (0 : Int) ≤ 1) ∧ (((0 : Int) ≤ μ 10 (a / 4) ∧ (0 : Int) ≤ 1) ∧ (z_ci m_X9_slotOf [(2, 6), (0, x3), (0, ((((z_S 0 ((4 * (μ 10 (a / 4))) + (a % 4)) : Int).toNat ^^^ (1 : Int).toNat : Nat)) : Int)), (0, ((((μ 10 (a / 4) : Int).toNat ^^^ (1 : Int).toNat : Nat)) : Int))] m4 d (fun x19 m17 => ((0 : Int) ≤ a ∧ a < 120) ∧ (K 2 (z_st m17 11 a x19)))))))))))))) : z_ci m_X9_joinSide [(2, 6), (0, a)] μ (d + 1) K := by
  show z_R m_X9_joinSide 0 [some (2, 6), some (0, a), none, none, none, none, none] [] z_n μ (d + 1) _
  refine z_aload_n dX9_joinSide_0 rfl ?_
  refine n_getp (ji := 4) dX9_joinSide_1 zf_X9_25 k_6 rfl (by decide) rfl p_6_4 ?_
  refine z_iload_n dX9_joinSide_4 rfl ?_
  refine z_iconst dX9_joinSide_5 ⟨by decide, by decide⟩ ?_
  refine n_ishr (m := 4) dX9_joinSide_6 (by decide) (by decide) ?_
  refine n_iald dX9_joinSide_7 k_9 h.1 ?_
  refine n_istore_n (lo' := [some (2, 6), some (0, a), some (0, μ 9 (a / 4)), none, none, none, none]) dX9_joinSide_8 ⟨Nat.le_of_ble_eq_true rfl, Nat.le_of_ble_eq_true rfl⟩ rfl ?_
  refine z_aload_n dX9_joinSide_9 rfl ?_
  refine n_getp (ji := 5) dX9_joinSide_10 zf_X9_28 k_6 rfl (by decide) rfl p_6_5 ?_
  refine z_iload_n dX9_joinSide_13 rfl ?_
  refine z_iconst dX9_joinSide_14 ⟨by decide, by decide⟩ ?_
  refine n_ishr (m := 4) dX9_joinSide_15 (by decide) (by decide) ?_
  refine n_iald dX9_joinSide_16 k_10 h.2.1 ?_
  refine n_istore_n (lo' := [some (2, 6), some (0, a), some (0, μ 9 (a / 4)), some (0, μ 10 (a / 4)), none, none, none]) dX9_joinSide_17 ⟨Nat.le_of_ble_eq_true rfl, Nat.le_of_ble_eq_true rfl⟩ rfl ?_
  refine n_getsN (j := 0) (oj := 1001) dX9_joinSide_18 rfl zq_668 (by decide) ?_
  refine z_iconst dX9_joinSide_21 ⟨by decide, by decide⟩ ?_
  refine z_iload_n dX9_joinSide_22 rfl ?_
  refine z_imul dX9_joinSide_23 h.2.2.1 ?_
  refine z_iload_n dX9_joinSide_24 rfl ?_
  refine z_iconst dX9_joinSide_25 ⟨by decide, by decide⟩ ?_
  refine n_iandm (k := 2) (m := 4) dX9_joinSide_26 (by decide) (by decide) ?_
  refine z_iadd dX9_joinSide_27 h.2.2.2.1 ?_
  refine n_sald (j := 0) (L := 24) dX9_joinSide_28 rfl (by decide) (by decide) h.2.2.2.2.1 ?_
  refine n_istore (lo' := [some (2, 6), some (0, a), some (0, μ 9 (a / 4)), some (0, μ 10 (a / 4)), some (0, z_S 0 ((4 * (μ 10 (a / 4))) + (a % 4))), none, none]) dX9_joinSide_29 ⟨Nat.le_of_ble_eq_true rfl, Nat.le_of_ble_eq_true rfl⟩ rfl ?_
  refine z_aload_n dX9_joinSide_31 rfl ?_
  refine z_iload_n dX9_joinSide_32 rfl ?_
  refine z_iload_n dX9_joinSide_33 rfl ?_
  refine z_iload dX9_joinSide_34 rfl ?_
  refine n_vI (as := [(0, μ 9 (a / 4)), (0, μ 10 (a / 4)), (0, z_S 0 ((4 * (μ 10 (a / 4))) + (a % 4)))]) (rest := []) dX9_joinSide_36 zm_X9_cubeBeside zs_X9_88 k_6 (by decide) rfl rfl (Nat.le_of_ble_eq_true rfl) (Nat.le_of_ble_eq_true rfl) h.2.2.2.2.2 (fun x3 m1 h2 => ?_)
  refine n_istore (lo' := [some (2, 6), some (0, a), some (0, μ 9 (a / 4)), some (0, μ 10 (a / 4)), some (0, z_S 0 ((4 * (μ 10 (a / 4))) + (a % 4))), some (0, x3), none]) dX9_joinSide_39 ⟨Nat.le_of_ble_eq_true rfl, Nat.le_of_ble_eq_true rfl⟩ rfl ?_
  refine z_aload_n dX9_joinSide_41 rfl ?_
  refine z_iload_n dX9_joinSide_42 rfl ?_
  refine z_iload dX9_joinSide_43 rfl ?_
  refine z_iconst dX9_joinSide_45 ⟨by decide, by decide⟩ ?_
  refine n_vI (as := [(0, μ 9 (a / 4)), (0, z_S 0 ((4 * (μ 10 (a / 4))) + (a % 4))), (0, (-1))]) (rest := []) dX9_joinSide_46 zm_X9_cubeBeside zs_X9_88 k_6 (by decide) rfl rfl (Nat.le_of_ble_eq_true rfl) (Nat.le_of_ble_eq_true rfl) h2 (fun x6 m4 h5 => ?_)
  refine n_istore (lo' := [some (2, 6), some (0, a), some (0, μ 9 (a / 4)), some (0, μ 10 (a / 4)), some (0, z_S 0 ((4 * (μ 10 (a / 4))) + (a % 4))), some (0, x3), some (0, x6)]) dX9_joinSide_49 ⟨Nat.le_of_ble_eq_true rfl, Nat.le_of_ble_eq_true rfl⟩ rfl ?_
  refine z_iload dX9_joinSide_51 rfl ?_
  refine z_iconst dX9_joinSide_53 ⟨by decide, by decide⟩ ?_
  refine z_icmp_eq (tgt := 78) dX9_joinSide_54 (by decide) (fun q7 => ?_) (fun q8 => ?_)
  · refine z_iload dX9_joinSide_78 rfl ?_
    refine z_iconst dX9_joinSide_80 ⟨by decide, by decide⟩ ?_
    refine z_icmp_eq (tgt := 103) dX9_joinSide_81 (by decide) (fun q9 => ?_) (fun q10 => ?_)
    · refine z_aload_n dX9_joinSide_103 rfl ?_
      refine n_getp (ji := 6) dX9_joinSide_104 zf_X9_31 k_6 rfl (by decide) rfl p_6_6 ?_
      refine z_iload_n dX9_joinSide_107 rfl ?_
      refine z_aload_n dX9_joinSide_108 rfl ?_
      refine z_iload_n dX9_joinSide_109 rfl ?_
      refine z_iload dX9_joinSide_110 rfl ?_
      refine z_iload_n dX9_joinSide_112 rfl ?_
      refine n_vI (as := [(0, μ 9 (a / 4)), (0, z_S 0 ((4 * (μ 10 (a / 4))) + (a % 4))), (0, μ 10 (a / 4))]) (rest := [(0, a), (2, 11)]) dX9_joinSide_113 zm_X9_slotOf zs_X9_106 k_6 (by decide) rfl rfl (Nat.le_of_ble_eq_true rfl) (Nat.le_of_ble_eq_true rfl) ((h5.1 q7).1 q9) (fun x13 m11 h12 => ?_)
      refine n_iast dX9_joinSide_116 k_11 h12.1 ?_
      refine z_iconst dX9_joinSide_117 ⟨by decide, by decide⟩ ?_
      exact z_ireturn dX9_joinSide_118 rfl rfl ⟨_, rfl, h12.2⟩
    · refine z_aload_n dX9_joinSide_84 rfl ?_
      refine n_getp (ji := 6) dX9_joinSide_85 zf_X9_31 k_6 rfl (by decide) rfl p_6_6 ?_
      refine z_iload_n dX9_joinSide_88 rfl ?_
      refine z_aload_n dX9_joinSide_89 rfl ?_
      refine z_iload dX9_joinSide_90 rfl ?_
      refine z_iload_n dX9_joinSide_92 rfl ?_
      refine z_iload dX9_joinSide_93 rfl ?_
      refine z_iconst dX9_joinSide_95 ⟨by decide, by decide⟩ ?_
      refine z_ixor dX9_joinSide_96 ((h5.1 q7).2 q10).1.1 ((h5.1 q7).2 q10).1.2 ?_
      refine n_vI (as := [(0, x6), (0, μ 10 (a / 4)), (0, ((((z_S 0 ((4 * (μ 10 (a / 4))) + (a % 4)) : Int).toNat ^^^ (1 : Int).toNat : Nat)) : Int))]) (rest := [(0, a), (2, 11)]) dX9_joinSide_97 zm_X9_slotOf zs_X9_106 k_6 (by decide) rfl rfl (Nat.le_of_ble_eq_true rfl) (Nat.le_of_ble_eq_true rfl) ((h5.1 q7).2 q10).2 (fun x16 m14 h15 => ?_)
      refine n_iast dX9_joinSide_100 k_11 h15.1 ?_
      refine z_iconst dX9_joinSide_101 ⟨by decide, by decide⟩ ?_
      exact z_ireturn dX9_joinSide_102 rfl rfl ⟨_, rfl, h15.2⟩
  · refine z_aload_n dX9_joinSide_57 rfl ?_
    refine n_getp (ji := 6) dX9_joinSide_58 zf_X9_31 k_6 rfl (by decide) rfl p_6_6 ?_
    refine z_iload_n dX9_joinSide_61 rfl ?_
    refine z_aload_n dX9_joinSide_62 rfl ?_
    refine z_iload dX9_joinSide_63 rfl ?_
    refine z_iload dX9_joinSide_65 rfl ?_
    refine z_iconst dX9_joinSide_67 ⟨by decide, by decide⟩ ?_
    refine z_ixor dX9_joinSide_68 (h5.2 q8).1.1 (h5.2 q8).1.2 ?_
    refine z_iload_n dX9_joinSide_69 rfl ?_
    refine z_iconst dX9_joinSide_70 ⟨by decide, by decide⟩ ?_
    refine z_ixor dX9_joinSide_71 (h5.2 q8).2.1.1 (h5.2 q8).2.1.2 ?_
    refine n_vI (as := [(0, x3), (0, ((((z_S 0 ((4 * (μ 10 (a / 4))) + (a % 4)) : Int).toNat ^^^ (1 : Int).toNat : Nat)) : Int)), (0, ((((μ 10 (a / 4) : Int).toNat ^^^ (1 : Int).toNat : Nat)) : Int))]) (rest := [(0, a), (2, 11)]) dX9_joinSide_72 zm_X9_slotOf zs_X9_106 k_6 (by decide) rfl rfl (Nat.le_of_ble_eq_true rfl) (Nat.le_of_ble_eq_true rfl) (h5.2 q8).2.2 (fun x19 m17 h18 => ?_)
    refine n_iast dX9_joinSide_75 k_11 h18.1 ?_
    refine z_iconst dX9_joinSide_76 ⟨by decide, by decide⟩ ?_
    exact z_ireturn dX9_joinSide_77 rfl rfl ⟨_, rfl, h18.2⟩
set_option maxRecDepth 20000 in
theorem V_X9_slotOf {a b c : Int}  {μ : z_Mem} {d : Nat} {K : Int → z_Mem → Prop} (h : z_I (6 * a) ∧ (z_I ((6 * a) + b) ∧ (((0 : Int) ≤ (6 * a) + b ∧ (6 * a) + b < 42) ∧ (z_ri m_X9_slotOf 20 [none, none, some (0, b), some (0, c), some (0, max 0 (μ 8 ((6 * a) + b))), some (0, 0)] μ (d + 1) K)))) : z_ci m_X9_slotOf [(2, 6), (0, a), (0, b), (0, c)] μ (d + 1) K := by
  show z_R m_X9_slotOf 0 [some (2, 6), some (0, a), some (0, b), some (0, c), none, none] [] z_n μ (d + 1) _
  refine z_iconst dX9_slotOf_0 ⟨by decide, by decide⟩ ?_
  refine z_aload_n dX9_slotOf_1 rfl ?_
  refine n_getp (ji := 3) dX9_slotOf_2 zf_X9_22 k_6 rfl (by decide) rfl p_6_3 ?_
  refine z_bipush dX9_slotOf_5 (by decide) ?_
  refine z_iload_n dX9_slotOf_7 rfl ?_
  refine z_imul dX9_slotOf_8 h.1 ?_
  refine z_iload_n dX9_slotOf_9 rfl ?_
  refine z_iadd dX9_slotOf_10 h.2.1 ?_
  refine n_iald dX9_slotOf_11 k_8 h.2.2.1 ?_
  refine z_mmax dX9_slotOf_12 zq_674 zq_675 zq_133 zq_676 (Nat.le_of_ble_eq_true rfl) ?_
  refine n_istore (lo' := [some (2, 6), some (0, a), some (0, b), some (0, c), some (0, max 0 (μ 8 ((6 * a) + b))), none]) dX9_slotOf_15 ⟨Nat.le_of_ble_eq_true rfl, Nat.le_of_ble_eq_true rfl⟩ rfl ?_
  refine z_iconst dX9_slotOf_17 ⟨by decide, by decide⟩ ?_
  refine n_istore (lo' := [some (2, 6), some (0, a), some (0, b), some (0, c), some (0, max 0 (μ 8 ((6 * a) + b))), some (0, 0)]) dX9_slotOf_18 ⟨Nat.le_of_ble_eq_true rfl, Nat.le_of_ble_eq_true rfl⟩ rfl ?_
  refine z_drop [none, none, some (0, b), some (0, c), some (0, max 0 (μ 8 ((6 * a) + b))), some (0, 0)] ⟨rfl, rfl, rfl, rfl, trivial⟩ ?_
  exact h.2.2.2
set_option maxRecDepth 20000 in
theorem V_X9_slotOf_20 {v2 v3 v4 v5 : Int}  {μ : z_Mem} {d : Nat} {K : Int → z_Mem → Prop} (h : (3 ≤ v5 → z_I (4 * v4) ∧ (z_I ((4 * v4) + 3) ∧ (K ((4 * v4) + 3) μ))) ∧ (v5 < 3 → z_I (4 * v2) ∧ (z_I ((4 * v2) + v5) ∧ (((0 : Int) ≤ (4 * v2) + v5 ∧ (4 * v2) + v5 < 24) ∧ ((¬ z_S 0 ((4 * v2) + v5) = v3 → z_I (v5 + 1) ∧ (z_ri m_X9_slotOf 20 [none, none, some (0, v2), some (0, v3), some (0, v4), some (0, v5 + 1)] μ (d + 1) K)) ∧ (z_S 0 ((4 * v2) + v5) = v3 → z_I (4 * v4) ∧ (z_I ((4 * v4) + v5) ∧ (K ((4 * v4) + v5) μ)))))))) : z_ri m_X9_slotOf 20 [none, none, some (0, v2), some (0, v3), some (0, v4), some (0, v5)] μ (d + 1) K := by
  show z_R m_X9_slotOf 20 [none, none, some (0, v2), some (0, v3), some (0, v4), some (0, v5)] [] z_n μ (d + 1) _
  refine z_iload dX9_slotOf_20 rfl ?_
  refine z_iconst dX9_slotOf_22 ⟨by decide, by decide⟩ ?_
  refine z_icmp_ge (tgt := 54) dX9_slotOf_23 (by decide) (fun q1 => ?_) (fun q2 => ?_)
  · refine z_iconst dX9_slotOf_54 ⟨by decide, by decide⟩ ?_
    refine z_iload dX9_slotOf_55 rfl ?_
    refine z_imul dX9_slotOf_57 (h.1 q1).1 ?_
    refine z_iconst dX9_slotOf_58 ⟨by decide, by decide⟩ ?_
    refine z_iadd dX9_slotOf_59 (h.1 q1).2.1 ?_
    exact z_ireturn dX9_slotOf_60 rfl rfl ⟨_, rfl, (h.1 q1).2.2⟩
  · refine n_getsN (j := 0) (oj := 1001) dX9_slotOf_26 rfl zq_668 (by decide) ?_
    refine z_iconst dX9_slotOf_29 ⟨by decide, by decide⟩ ?_
    refine z_iload_n dX9_slotOf_30 rfl ?_
    refine z_imul dX9_slotOf_31 (h.2 q2).1 ?_
    refine z_iload dX9_slotOf_32 rfl ?_
    refine z_iadd dX9_slotOf_34 (h.2 q2).2.1 ?_
    refine n_sald (j := 0) (L := 24) dX9_slotOf_35 rfl (by decide) (by decide) (h.2 q2).2.2.1 ?_
    refine z_iload_n dX9_slotOf_36 rfl ?_
    refine z_icmp_ne (tgt := 48) dX9_slotOf_37 (by decide) (fun q3 => ?_) (fun q4 => ?_)
    · refine n_iinc (lo' := [none, none, some (0, v2), some (0, v3), some (0, v4), some (0, v5 + 1)]) dX9_slotOf_48 rfl (by decide) ((h.2 q2).2.2.2.1 q3).1 rfl ?_
      refine z_goto (tgt := 20) dX9_slotOf_51 (by decide) ?_
      refine z_drop [none, none, some (0, v2), some (0, v3), some (0, v4), some (0, v5 + 1)] ⟨rfl, rfl, rfl, rfl, trivial⟩ ?_
      exact ((h.2 q2).2.2.2.1 q3).2
    · refine z_iconst dX9_slotOf_40 ⟨by decide, by decide⟩ ?_
      refine z_iload dX9_slotOf_41 rfl ?_
      refine z_imul dX9_slotOf_43 ((h.2 q2).2.2.2.2 q4).1 ?_
      refine z_iload dX9_slotOf_44 rfl ?_
      refine z_iadd dX9_slotOf_46 ((h.2 q2).2.2.2.2 q4).2.1 ?_
      exact z_ireturn dX9_slotOf_47 rfl rfl ⟨_, rfl, ((h.2 q2).2.2.2.2 q4).2.2⟩
set_option maxRecDepth 20000 in
theorem V_X9_findVertices  {μ : z_Mem} {d : Nat} {K : z_Mem → Prop} (h : z_rn m_X9_findVertices 7 [some (2, 6), some (0, 0)] (z_st μ 6 11 0) (d + 1) K) : z_cn m_X9_findVertices [(2, 6)] μ (d + 1) K := by
  show z_R m_X9_findVertices 0 [some (2, 6), none] [] z_n μ (d + 1) _
  refine z_aload_n dX9_findVertices_0 rfl ?_
  refine z_iconst dX9_findVertices_1 ⟨by decide, by decide⟩ ?_
  refine n_putI (ji := 11) dX9_findVertices_2 zf_X9_46 k_6 rfl (by decide) rfl ?_
  refine z_iconst dX9_findVertices_5 ⟨by decide, by decide⟩ ?_
  refine n_istore_n (lo' := [some (2, 6), some (0, 0)]) dX9_findVertices_6 ⟨Nat.le_of_ble_eq_true rfl, Nat.le_of_ble_eq_true rfl⟩ rfl ?_
  refine z_drop [some (2, 6), some (0, 0)] ⟨rfl, rfl, trivial⟩ ?_
  exact h
set_option maxRecDepth 20000 in
theorem V_X9_findVertices_7 {v1 : Int}  {μ : z_Mem} {d : Nat} {K : z_Mem → Prop} (h : z_I (4 * (μ 6 2)) ∧ ((4 * (μ 6 2) ≤ v1 → z_rn m_X9_findVertices 32 [some (2, 6), some (0, 0)] μ (d + 1) K) ∧ (v1 < 4 * (μ 6 2) → ((0 : Int) ≤ v1 ∧ v1 < 120) ∧ (z_I (v1 + 1) ∧ (z_rn m_X9_findVertices 7 [some (2, 6), some (0, v1 + 1)] (z_st μ 15 v1 (-1)) (d + 1) K))))) : z_rn m_X9_findVertices 7 [some (2, 6), some (0, v1)] μ (d + 1) K := by
  show z_R m_X9_findVertices 7 [some (2, 6), some (0, v1)] [] z_n μ (d + 1) _
  refine z_iload_n dX9_findVertices_7 rfl ?_
  refine z_iconst dX9_findVertices_8 ⟨by decide, by decide⟩ ?_
  refine z_aload_n dX9_findVertices_9 rfl ?_
  refine n_getf (ji := 2) (t := 0) dX9_findVertices_10 zf_X9_19 k_6 rfl (by decide) rfl ?_
  refine z_imul dX9_findVertices_13 h.1 ?_
  refine z_icmp_ge (tgt := 30) dX9_findVertices_14 (by decide) (fun q1 => ?_) (fun q2 => ?_)
  · refine z_iconst dX9_findVertices_30 ⟨by decide, by decide⟩ ?_
    refine n_istore_n (lo' := [some (2, 6), some (0, 0)]) dX9_findVertices_31 ⟨Nat.le_of_ble_eq_true rfl, Nat.le_of_ble_eq_true rfl⟩ rfl ?_
    refine z_drop [some (2, 6), some (0, 0)] ⟨rfl, rfl, trivial⟩ ?_
    exact (h.2.1 q1)
  · refine z_aload_n dX9_findVertices_17 rfl ?_
    refine n_getp (ji := 12) dX9_findVertices_18 zf_X9_49 k_6 rfl (by decide) rfl p_6_12 ?_
    refine z_iload_n dX9_findVertices_21 rfl ?_
    refine z_iconst dX9_findVertices_22 ⟨by decide, by decide⟩ ?_
    refine n_iast dX9_findVertices_23 k_15 (h.2.2 q2).1 ?_
    refine n_iinc (lo' := [some (2, 6), some (0, v1 + 1)]) dX9_findVertices_24 rfl (by decide) (h.2.2 q2).2.1 rfl ?_
    refine z_goto (tgt := 7) dX9_findVertices_27 (by decide) ?_
    refine z_drop [some (2, 6), some (0, v1 + 1)] ⟨rfl, rfl, trivial⟩ ?_
    exact (h.2.2 q2).2.2
set_option maxRecDepth 20000 in
theorem V_X9_findVertices_32 {v1 : Int}  {μ : z_Mem} {d : Nat} {K : z_Mem → Prop} (h : z_I (4 * (μ 6 2)) ∧ ((4 * (μ 6 2) ≤ v1 → K μ) ∧ (v1 < 4 * (μ 6 2) → ((0 : Int) ≤ v1 ∧ v1 < 120) ∧ ((¬ μ 15 v1 = (-1) → z_I (v1 + 1) ∧ (z_rn m_X9_findVertices 32 [some (2, 6), some (0, v1 + 1)] μ (d + 1) K)) ∧ (μ 15 v1 = (-1) → z_ci m_X9_goRound [(2, 6), (0, v1)] μ d (fun x7 m5 => ((0 : Int) ≤ μ 6 11 ∧ μ 6 11 < 120) ∧ (z_I (((z_st m5 16 (μ 6 11) x7) 6 11) + 1) ∧ (z_I (v1 + 1) ∧ (z_rn m_X9_findVertices 32 [some (2, 6), some (0, v1 + 1)] (z_st (z_st m5 16 (μ 6 11) x7) 6 11 (((z_st m5 16 (μ 6 11) x7) 6 11) + 1)) (d + 1) K))))))))) : z_rn m_X9_findVertices 32 [some (2, 6), some (0, v1)] μ (d + 1) K := by
  show z_R m_X9_findVertices 32 [some (2, 6), some (0, v1)] [] z_n μ (d + 1) _
  refine z_iload_n dX9_findVertices_32 rfl ?_
  refine z_iconst dX9_findVertices_33 ⟨by decide, by decide⟩ ?_
  refine z_aload_n dX9_findVertices_34 rfl ?_
  refine n_getf (ji := 2) (t := 0) dX9_findVertices_35 zf_X9_19 k_6 rfl (by decide) rfl ?_
  refine z_imul dX9_findVertices_38 h.1 ?_
  refine z_icmp_ge (tgt := 82) dX9_findVertices_39 (by decide) (fun q1 => ?_) (fun q2 => ?_)
  · exact z_return dX9_findVertices_82 rfl rfl ⟨rfl, (h.2.1 q1)⟩
  · refine z_aload_n dX9_findVertices_42 rfl ?_
    refine n_getp (ji := 12) dX9_findVertices_43 zf_X9_49 k_6 rfl (by decide) rfl p_6_12 ?_
    refine z_iload_n dX9_findVertices_46 rfl ?_
    refine n_iald dX9_findVertices_47 k_15 (h.2.2 q2).1 ?_
    refine z_iconst dX9_findVertices_48 ⟨by decide, by decide⟩ ?_
    refine z_icmp_ne (tgt := 76) dX9_findVertices_49 (by decide) (fun q3 => ?_) (fun q4 => ?_)
    · refine n_iinc (lo' := [some (2, 6), some (0, v1 + 1)]) dX9_findVertices_76 rfl (by decide) ((h.2.2 q2).2.1 q3).1 rfl ?_
      refine z_goto (tgt := 32) dX9_findVertices_79 (by decide) ?_
      refine z_drop [some (2, 6), some (0, v1 + 1)] ⟨rfl, rfl, trivial⟩ ?_
      exact ((h.2.2 q2).2.1 q3).2
    · refine z_aload_n dX9_findVertices_52 rfl ?_
      refine n_getp (ji := 13) dX9_findVertices_53 zf_X9_52 k_6 rfl (by decide) rfl p_6_13 ?_
      refine z_aload_n dX9_findVertices_56 rfl ?_
      refine n_getf (ji := 11) (t := 0) dX9_findVertices_57 zf_X9_46 k_6 rfl (by decide) rfl ?_
      refine z_aload_n dX9_findVertices_60 rfl ?_
      refine z_iload_n dX9_findVertices_61 rfl ?_
      refine n_vI (as := [(0, v1)]) (rest := [(0, μ 6 11), (2, 16)]) dX9_findVertices_62 zm_X9_goRound zs_X9_112 k_6 (by decide) rfl rfl (Nat.le_of_ble_eq_true rfl) (Nat.le_of_ble_eq_true rfl) ((h.2.2 q2).2.2 q4) (fun x7 m5 h6 => ?_)
      refine n_iast dX9_findVertices_65 k_16 h6.1 ?_
      refine z_aload_n dX9_findVertices_66 rfl ?_
      refine z_dup dX9_findVertices_67 rfl ?_
      refine n_getf (ji := 11) (t := 0) dX9_findVertices_68 zf_X9_46 k_6 rfl (by decide) rfl ?_
      refine z_iconst dX9_findVertices_71 ⟨by decide, by decide⟩ ?_
      refine z_iadd dX9_findVertices_72 h6.2.1 ?_
      refine n_putI (ji := 11) dX9_findVertices_73 zf_X9_46 k_6 rfl (by decide) rfl ?_
      refine n_iinc (lo' := [some (2, 6), some (0, v1 + 1)]) dX9_findVertices_76 rfl (by decide) h6.2.2.1 rfl ?_
      refine z_goto (tgt := 32) dX9_findVertices_79 (by decide) ?_
      refine z_drop [some (2, 6), some (0, v1 + 1)] ⟨rfl, rfl, trivial⟩ ?_
      exact h6.2.2.2
set_option maxRecDepth 20000 in
theorem V_X9_goRound {a : Int}  {μ : z_Mem} {d : Nat} {K : Int → z_Mem → Prop} (h : z_ri m_X9_goRound 4 [some (2, 6), none, some (0, a), some (0, 0)] μ (d + 1) K) : z_ci m_X9_goRound [(2, 6), (0, a)] μ (d + 1) K := by
  show z_R m_X9_goRound 0 [some (2, 6), some (0, a), none, none] [] z_n μ (d + 1) _
  refine z_iload_n dX9_goRound_0 rfl ?_
  refine n_istore_n (lo' := [some (2, 6), some (0, a), some (0, a), none]) dX9_goRound_1 ⟨Nat.le_of_ble_eq_true rfl, Nat.le_of_ble_eq_true rfl⟩ rfl ?_
  refine z_iconst dX9_goRound_2 ⟨by decide, by decide⟩ ?_
  refine n_istore_n (lo' := [some (2, 6), some (0, a), some (0, a), some (0, 0)]) dX9_goRound_3 ⟨Nat.le_of_ble_eq_true rfl, Nat.le_of_ble_eq_true rfl⟩ rfl ?_
  refine z_drop [some (2, 6), none, some (0, a), some (0, 0)] ⟨rfl, rfl, rfl, trivial⟩ ?_
  exact h
set_option maxRecDepth 20000 in
theorem V_X9_goRound_4 {v2 v3 : Int}  {μ : z_Mem} {d : Nat} {K : Int → z_Mem → Prop} (h : z_I (4 * (μ 6 2)) ∧ ((4 * (μ 6 2) ≤ v3 → K v3 μ) ∧ (v3 < 4 * (μ 6 2) → ((0 : Int) ≤ v2 ∧ v2 < 120) ∧ ((¬ μ 15 v2 = (-1) → K v3 μ) ∧ (μ 15 v2 = (-1) → ((0 : Int) ≤ v2 ∧ v2 < 120) ∧ (z_ci m_X11_nextSlot [(0, v2)] (z_st μ 15 v2 (μ 6 11)) d (fun x7 m5 => ((0 : Int) ≤ x7 ∧ x7 < 120) ∧ (z_I (v3 + 1) ∧ (z_ri m_X9_goRound 4 [some (2, 6), none, some (0, m5 11 x7), some (0, v3 + 1)] m5 (d + 1) K))))))))) : z_ri m_X9_goRound 4 [some (2, 6), none, some (0, v2), some (0, v3)] μ (d + 1) K := by
  show z_R m_X9_goRound 4 [some (2, 6), none, some (0, v2), some (0, v3)] [] z_n μ (d + 1) _
  refine z_iload_n dX9_goRound_4 rfl ?_
  refine z_iconst dX9_goRound_5 ⟨by decide, by decide⟩ ?_
  refine z_aload_n dX9_goRound_6 rfl ?_
  refine n_getf (ji := 2) (t := 0) dX9_goRound_7 zf_X9_19 k_6 rfl (by decide) rfl ?_
  refine z_imul dX9_goRound_10 h.1 ?_
  refine z_icmp_ge (tgt := 50) dX9_goRound_11 (by decide) (fun q1 => ?_) (fun q2 => ?_)
  · refine z_iload_n dX9_goRound_50 rfl ?_
    exact z_ireturn dX9_goRound_51 rfl rfl ⟨_, rfl, (h.2.1 q1)⟩
  · refine z_aload_n dX9_goRound_14 rfl ?_
    refine n_getp (ji := 12) dX9_goRound_15 zf_X9_49 k_6 rfl (by decide) rfl p_6_12 ?_
    refine z_iload_n dX9_goRound_18 rfl ?_
    refine n_iald dX9_goRound_19 k_15 (h.2.2 q2).1 ?_
    refine z_iconst dX9_goRound_20 ⟨by decide, by decide⟩ ?_
    refine z_icmp_ne (tgt := 50) dX9_goRound_21 (by decide) (fun q3 => ?_) (fun q4 => ?_)
    · refine z_iload_n dX9_goRound_50 rfl ?_
      exact z_ireturn dX9_goRound_51 rfl rfl ⟨_, rfl, ((h.2.2 q2).2.1 q3)⟩
    · refine z_aload_n dX9_goRound_24 rfl ?_
      refine n_getp (ji := 12) dX9_goRound_25 zf_X9_49 k_6 rfl (by decide) rfl p_6_12 ?_
      refine z_iload_n dX9_goRound_28 rfl ?_
      refine z_aload_n dX9_goRound_29 rfl ?_
      refine n_getf (ji := 11) (t := 0) dX9_goRound_30 zf_X9_46 k_6 rfl (by decide) rfl ?_
      refine n_iast dX9_goRound_33 k_15 ((h.2.2 q2).2.2 q4).1 ?_
      refine z_aload_n dX9_goRound_34 rfl ?_
      refine n_getp (ji := 6) dX9_goRound_35 zf_X9_31 k_6 rfl (by decide) rfl p_6_6 ?_
      refine z_iload_n dX9_goRound_38 rfl ?_
      refine n_snI (as := [(0, v2)]) (rest := [(2, 11)]) dX9_goRound_39 zm_X11_nextSlot zq_685 zq_686 rfl rfl (Nat.le_of_ble_eq_true rfl) (Nat.le_of_ble_eq_true rfl) ((h.2.2 q2).2.2 q4).2 (fun x7 m5 h6 => ?_)
      refine n_iald dX9_goRound_42 k_11 h6.1 ?_
      refine n_istore_n (lo' := [some (2, 6), none, some (0, m5 11 x7), some (0, v3)]) dX9_goRound_43 ⟨Nat.le_of_ble_eq_true rfl, Nat.le_of_ble_eq_true rfl⟩ rfl ?_
      refine n_iinc (lo' := [some (2, 6), none, some (0, m5 11 x7), some (0, v3 + 1)]) dX9_goRound_44 rfl (by decide) h6.2.1 rfl ?_
      refine z_goto (tgt := 4) dX9_goRound_47 (by decide) ?_
      refine z_drop [some (2, 6), none, some (0, m5 11 x7), some (0, v3 + 1)] ⟨rfl, rfl, rfl, trivial⟩ ?_
      exact h6.2.2
set_option maxRecDepth 20000 in
theorem V_X9_faceOf {a b : Int}  {μ : z_Mem} {d : Nat} {K : Int → z_Mem → Prop} (h : z_I (2 * a) ∧ (z_I ((2 * a) + b) ∧ (((0 : Int) ≤ (2 * a) + b ∧ (2 * a) + b < 120) ∧ (K ((μ 13 ((2 * a) + b)) / 4) μ)))) : z_ci m_X9_faceOf [(2, 6), (0, a), (0, b)] μ d K := by
  show z_R m_X9_faceOf 0 [some (2, 6), some (0, a), some (0, b)] [] z_n μ d _
  refine z_aload_n dX9_faceOf_0 rfl ?_
  refine n_getp (ji := 9) dX9_faceOf_1 zf_X9_40 k_6 rfl (by decide) rfl p_6_9 ?_
  refine z_iconst dX9_faceOf_4 ⟨by decide, by decide⟩ ?_
  refine z_iload_n dX9_faceOf_5 rfl ?_
  refine z_imul dX9_faceOf_6 h.1 ?_
  refine z_iload_n dX9_faceOf_7 rfl ?_
  refine z_iadd dX9_faceOf_8 h.2.1 ?_
  refine n_iald dX9_faceOf_9 k_13 h.2.2.1 ?_
  refine z_iconst dX9_faceOf_10 ⟨by decide, by decide⟩ ?_
  refine n_ishr (m := 4) dX9_faceOf_11 (by decide) (by decide) ?_
  exact z_ireturn dX9_faceOf_12 rfl rfl ⟨_, rfl, h.2.2.2⟩
set_option maxRecDepth 20000 in
theorem V_X9_reach {a b : Int}  {μ : z_Mem} {d : Nat} {K : Int → z_Mem → Prop} (h : (a < 0 → K 0 μ) ∧ (0 ≤ a → (a < μ 6 2 → ((0 : Int) ≤ a ∧ a < 31) ∧ (((0 : Int) ≤ a ∧ a < 30) ∧ (z_ri m_X9_reach 39 [some (2, 6), none, some (1, b), none, some (0, (2 : Int) ^ (a : Int).toNat), some (0, 1), some (0, 0), none, none, none] (z_st (z_st μ 17 0 a) 18 a (-1)) d K))) ∧ (μ 6 2 ≤ a → K 0 μ))) : z_ci m_X9_reach [(2, 6), (0, a), (1, b)] μ d K := by
  show z_R m_X9_reach 0 [some (2, 6), some (0, a), some (1, b), none, none, none, none, none, none, none] [] z_n μ d _
  refine z_iload_n dX9_reach_0 rfl ?_
  refine z_if_lt (tgt := 12) dX9_reach_1 (by decide) (fun q1 => ?_) (fun q2 => ?_)
  · refine z_iconst dX9_reach_12 ⟨by decide, by decide⟩ ?_
    exact z_ireturn dX9_reach_13 rfl rfl ⟨_, rfl, (h.1 q1)⟩
  · refine z_iload_n dX9_reach_4 rfl ?_
    refine z_aload_n dX9_reach_5 rfl ?_
    refine n_getf (ji := 2) (t := 0) dX9_reach_6 zf_X9_19 k_6 rfl (by decide) rfl ?_
    refine z_icmp_lt (tgt := 14) dX9_reach_9 (by decide) (fun q3 => ?_) (fun q4 => ?_)
    · refine z_iconst dX9_reach_14 ⟨by decide, by decide⟩ ?_
      refine z_iload_n dX9_reach_15 rfl ?_
      refine n_ishl1 dX9_reach_16 ((h.2 q2).1 q3).1 ?_
      refine n_istore (lo' := [some (2, 6), some (0, a), some (1, b), none, some (0, (2 : Int) ^ (a : Int).toNat), none, none, none, none, none]) dX9_reach_17 ⟨Nat.le_of_ble_eq_true rfl, Nat.le_of_ble_eq_true rfl⟩ rfl ?_
      refine z_iconst dX9_reach_19 ⟨by decide, by decide⟩ ?_
      refine n_istore (lo' := [some (2, 6), some (0, a), some (1, b), none, some (0, (2 : Int) ^ (a : Int).toNat), some (0, 1), none, none, none, none]) dX9_reach_20 ⟨Nat.le_of_ble_eq_true rfl, Nat.le_of_ble_eq_true rfl⟩ rfl ?_
      refine z_aload_n dX9_reach_22 rfl ?_
      refine n_getp (ji := 14) dX9_reach_23 zf_X9_55 k_6 rfl (by decide) rfl p_6_14 ?_
      refine z_iconst dX9_reach_26 ⟨by decide, by decide⟩ ?_
      refine z_iload_n dX9_reach_27 rfl ?_
      refine n_iast dX9_reach_28 k_17 (by decide) ?_
      refine z_aload_n dX9_reach_29 rfl ?_
      refine n_getp (ji := 15) dX9_reach_30 zf_X9_58 k_6 rfl (by decide) rfl p_6_15 ?_
      refine z_iload_n dX9_reach_33 rfl ?_
      refine z_iconst dX9_reach_34 ⟨by decide, by decide⟩ ?_
      refine n_iast dX9_reach_35 k_18 ((h.2 q2).1 q3).2.1 ?_
      refine z_iconst dX9_reach_36 ⟨by decide, by decide⟩ ?_
      refine n_istore (lo' := [some (2, 6), some (0, a), some (1, b), none, some (0, (2 : Int) ^ (a : Int).toNat), some (0, 1), some (0, 0), none, none, none]) dX9_reach_37 ⟨Nat.le_of_ble_eq_true rfl, Nat.le_of_ble_eq_true rfl⟩ rfl ?_
      refine z_drop [some (2, 6), none, some (1, b), none, some (0, (2 : Int) ^ (a : Int).toNat), some (0, 1), some (0, 0), none, none, none] ⟨rfl, rfl, rfl, rfl, rfl, trivial⟩ ?_
      exact ((h.2 q2).1 q3).2.2
    · refine z_iconst dX9_reach_12 ⟨by decide, by decide⟩ ?_
      exact z_ireturn dX9_reach_13 rfl rfl ⟨_, rfl, ((h.2 q2).2 q4)⟩
set_option maxRecDepth 20000 in
theorem V_X9_reach_39 {v2 v4 v5 v6 : Int}  {μ : z_Mem} {d : Nat} {K : Int → z_Mem → Prop} (h : (v5 ≤ v6 → K v4 μ) ∧ (v6 < v5 → (30 ≤ v6 → K v4 μ) ∧ (v6 < 30 → ((0 : Int) ≤ v6 ∧ v6 < 30) ∧ (z_I (4 * (μ 17 v6)) ∧ (z_ri m_X9_reach 68 [some (2, 6), none, some (1, v2), none, some (0, v4), some (0, v5), some (0, v6), some (0, μ 17 v6), some (0, 4 * (μ 17 v6)), none] μ d K))))) : z_ri m_X9_reach 39 [some (2, 6), none, some (1, v2), none, some (0, v4), some (0, v5), some (0, v6), none, none, none] μ d K := by
  show z_R m_X9_reach 39 [some (2, 6), none, some (1, v2), none, some (0, v4), some (0, v5), some (0, v6), none, none, none] [] z_n μ d _
  refine z_iload dX9_reach_39 rfl ?_
  refine z_iload dX9_reach_41 rfl ?_
  refine z_icmp_ge (tgt := 165) dX9_reach_43 (by decide) (fun q1 => ?_) (fun q2 => ?_)
  · refine z_iload dX9_reach_165 rfl ?_
    exact z_ireturn dX9_reach_167 rfl rfl ⟨_, rfl, (h.1 q1)⟩
  · refine z_iload dX9_reach_46 rfl ?_
    refine z_bipush dX9_reach_48 (by decide) ?_
    refine z_icmp_ge (tgt := 165) dX9_reach_50 (by decide) (fun q3 => ?_) (fun q4 => ?_)
    · refine z_iload dX9_reach_165 rfl ?_
      exact z_ireturn dX9_reach_167 rfl rfl ⟨_, rfl, ((h.2 q2).1 q3)⟩
    · refine z_aload_n dX9_reach_53 rfl ?_
      refine n_getp (ji := 14) dX9_reach_54 zf_X9_55 k_6 rfl (by decide) rfl p_6_14 ?_
      refine z_iload dX9_reach_57 rfl ?_
      refine n_iald dX9_reach_59 k_17 ((h.2 q2).2 q4).1 ?_
      refine n_istore (lo' := [some (2, 6), none, some (1, v2), none, some (0, v4), some (0, v5), some (0, v6), some (0, μ 17 v6), none, none]) dX9_reach_60 ⟨Nat.le_of_ble_eq_true rfl, Nat.le_of_ble_eq_true rfl⟩ rfl ?_
      refine z_iconst dX9_reach_62 ⟨by decide, by decide⟩ ?_
      refine z_iload dX9_reach_63 rfl ?_
      refine z_imul dX9_reach_65 ((h.2 q2).2 q4).2.1 ?_
      refine n_istore (lo' := [some (2, 6), none, some (1, v2), none, some (0, v4), some (0, v5), some (0, v6), some (0, μ 17 v6), some (0, 4 * (μ 17 v6)), none]) dX9_reach_66 ⟨Nat.le_of_ble_eq_true rfl, Nat.le_of_ble_eq_true rfl⟩ rfl ?_
      refine z_drop [some (2, 6), none, some (1, v2), none, some (0, v4), some (0, v5), some (0, v6), some (0, μ 17 v6), some (0, 4 * (μ 17 v6)), none] ⟨rfl, rfl, rfl, rfl, rfl, rfl, rfl, trivial⟩ ?_
      exact ((h.2 q2).2 q4).2.2
set_option maxRecDepth 20000 in
theorem V_X9_reach_68 {v2 v4 v5 v6 v7 v8 : Int}  {μ : z_Mem} {d : Nat} {K : Int → z_Mem → Prop} (h : z_I (4 * v7) ∧ (z_I ((4 * v7) + 4) ∧ (((4 * v7) + 4 ≤ v8 → z_I (v6 + 1) ∧ (z_ri m_X9_reach 39 [some (2, 6), none, some (1, v2), none, some (0, v4), some (0, v5), some (0, v6 + 1), none, none, none] μ d K)) ∧ (v8 < (4 * v7) + 4 → ((0 : Int) ≤ v8 ∧ v8 < 120) ∧ (((0 : Int) ≤ v8 ∧ v8 < 120) ∧ (((0 : Int) ≤ μ 12 v8 ∧ μ 12 v8 < 64) ∧ (((0 : Int) ≤ v2) ∧ (((0 : Int) ≤ v2 / 2 ^ (μ 12 v8 : Int).toNat ∧ (0 : Int) ≤ 1) ∧ ((((((v2 / 2 ^ (μ 12 v8 : Int).toNat : Int).toNat &&& (1 : Int).toNat : Nat)) : Int) = 0 → z_I (v8 + 1) ∧ (z_ri m_X9_reach 68 [some (2, 6), none, some (1, v2), none, some (0, v4), some (0, v5), some (0, v6), some (0, v7), some (0, v8 + 1), none] μ d K)) ∧ (¬ ((((v2 / 2 ^ (μ 12 v8 : Int).toNat : Int).toNat &&& (1 : Int).toNat : Nat)) : Int) = 0 → ((0 : Int) ≤ (μ 11 v8) / 4 ∧ (μ 11 v8) / 4 < 32) ∧ (((0 : Int) ≤ v4) ∧ ((¬ (v4 / 2 ^ ((μ 11 v8) / 4 : Int).toNat) % 2 = 0 → z_I (v8 + 1) ∧ (z_ri m_X9_reach 68 [some (2, 6), none, some (1, v2), none, some (0, v4), some (0, v5), some (0, v6), some (0, v7), some (0, v8 + 1), none] μ d K)) ∧ ((v4 / 2 ^ ((μ 11 v8) / 4 : Int).toNat) % 2 = 0 → (30 ≤ v5 → z_I (v8 + 1) ∧ (z_ri m_X9_reach 68 [some (2, 6), none, some (1, v2), none, some (0, v4), some (0, v5), some (0, v6), some (0, v7), some (0, v8 + 1), none] μ d K)) ∧ (v5 < 30 → ((0 : Int) ≤ (μ 11 v8) / 4 ∧ (μ 11 v8) / 4 < 31) ∧ (((0 : Int) ≤ v4 ∧ (0 : Int) ≤ (2 : Int) ^ ((μ 11 v8) / 4 : Int).toNat) ∧ (((0 : Int) ≤ (μ 11 v8) / 4 ∧ (μ 11 v8) / 4 < 30) ∧ (((0 : Int) ≤ v5 ∧ v5 < 30) ∧ (z_I (v5 + 1) ∧ (z_I (v8 + 1) ∧ (z_ri m_X9_reach 68 [some (2, 6), none, some (1, v2), none, some (0, ((((v4 : Int).toNat ||| ((2 : Int) ^ ((μ 11 v8) / 4 : Int).toNat : Int).toNat : Nat)) : Int)), some (0, v5 + 1), some (0, v6), some (0, v7), some (0, v8 + 1), none] (z_st (z_st μ 18 ((μ 11 v8) / 4) v7) 17 v5 ((μ 11 v8) / 4)) d K)))))))))))))))))))) : z_ri m_X9_reach 68 [some (2, 6), none, some (1, v2), none, some (0, v4), some (0, v5), some (0, v6), some (0, v7), some (0, v8), none] μ d K := by
  show z_R m_X9_reach 68 [some (2, 6), none, some (1, v2), none, some (0, v4), some (0, v5), some (0, v6), some (0, v7), some (0, v8), none] [] z_n μ d _
  refine z_iload dX9_reach_68 rfl ?_
  refine z_iconst dX9_reach_70 ⟨by decide, by decide⟩ ?_
  refine z_iload dX9_reach_71 rfl ?_
  refine z_imul dX9_reach_73 h.1 ?_
  refine z_iconst dX9_reach_74 ⟨by decide, by decide⟩ ?_
  refine z_iadd dX9_reach_75 h.2.1 ?_
  refine z_icmp_ge (tgt := 159) dX9_reach_76 (by decide) (fun q1 => ?_) (fun q2 => ?_)
  · refine n_iinc (lo' := [some (2, 6), none, some (1, v2), none, some (0, v4), some (0, v5), some (0, v6 + 1), some (0, v7), some (0, v8), none]) dX9_reach_159 rfl (by decide) (h.2.2.1 q1).1 rfl ?_
    refine z_goto (tgt := 39) dX9_reach_162 (by decide) ?_
    refine z_drop [some (2, 6), none, some (1, v2), none, some (0, v4), some (0, v5), some (0, v6 + 1), none, none, none] ⟨rfl, rfl, rfl, rfl, rfl, trivial⟩ ?_
    exact (h.2.2.1 q1).2
  · refine z_aload_n dX9_reach_79 rfl ?_
    refine n_getp (ji := 6) dX9_reach_80 zf_X9_31 k_6 rfl (by decide) rfl p_6_6 ?_
    refine z_iload dX9_reach_83 rfl ?_
    refine n_iald dX9_reach_85 k_11 (h.2.2.2 q2).1 ?_
    refine z_iconst dX9_reach_86 ⟨by decide, by decide⟩ ?_
    refine n_ishr (m := 4) dX9_reach_87 (by decide) (by decide) ?_
    refine n_istore (lo' := [some (2, 6), none, some (1, v2), none, some (0, v4), some (0, v5), some (0, v6), some (0, v7), some (0, v8), some (0, (μ 11 v8) / 4)]) dX9_reach_88 ⟨Nat.le_of_ble_eq_true rfl, Nat.le_of_ble_eq_true rfl⟩ rfl ?_
    refine z_lload_n dX9_reach_90 rfl ?_
    refine z_aload_n dX9_reach_91 rfl ?_
    refine n_getp (ji := 7) dX9_reach_92 zf_X9_34 k_6 rfl (by decide) rfl p_6_7 ?_
    refine z_iload dX9_reach_95 rfl ?_
    refine n_iald dX9_reach_97 k_12 (h.2.2.2 q2).2.1 ?_
    refine n_lushr dX9_reach_98 (h.2.2.2 q2).2.2.1 (h.2.2.2 q2).2.2.2.1 ?_
    refine z_lconst1 dX9_reach_99 ?_
    refine z_land dX9_reach_100 (h.2.2.2 q2).2.2.2.2.1.1 (h.2.2.2 q2).2.2.2.2.1.2 ?_
    refine z_lconst0 dX9_reach_101 ?_
    refine z_lcmp_eq (tgt := 153) dX9_reach_102 dX9_reach_103 (by decide) (fun q3 => ?_) (fun q4 => ?_)
    · refine n_iinc (lo' := [some (2, 6), none, some (1, v2), none, some (0, v4), some (0, v5), some (0, v6), some (0, v7), some (0, v8 + 1), some (0, (μ 11 v8) / 4)]) dX9_reach_153 rfl (by decide) ((h.2.2.2 q2).2.2.2.2.2.1 q3).1 rfl ?_
      refine z_goto (tgt := 68) dX9_reach_156 (by decide) ?_
      refine z_drop [some (2, 6), none, some (1, v2), none, some (0, v4), some (0, v5), some (0, v6), some (0, v7), some (0, v8 + 1), none] ⟨rfl, rfl, rfl, rfl, rfl, rfl, rfl, trivial⟩ ?_
      exact ((h.2.2.2 q2).2.2.2.2.2.1 q3).2
    · refine z_iload dX9_reach_106 rfl ?_
      refine z_iload dX9_reach_108 rfl ?_
      refine n_iushr dX9_reach_110 ((h.2.2.2 q2).2.2.2.2.2.2 q4).1 ((h.2.2.2 q2).2.2.2.2.2.2 q4).2.1 ?_
      refine z_iconst dX9_reach_111 ⟨by decide, by decide⟩ ?_
      refine n_iandm (k := 1) (m := 2) dX9_reach_112 (by decide) (by decide) ?_
      refine z_if_ne (tgt := 153) dX9_reach_113 (by decide) (fun q5 => ?_) (fun q6 => ?_)
      · refine n_iinc (lo' := [some (2, 6), none, some (1, v2), none, some (0, v4), some (0, v5), some (0, v6), some (0, v7), some (0, v8 + 1), some (0, (μ 11 v8) / 4)]) dX9_reach_153 rfl (by decide) (((h.2.2.2 q2).2.2.2.2.2.2 q4).2.2.1 q5).1 rfl ?_
        refine z_goto (tgt := 68) dX9_reach_156 (by decide) ?_
        refine z_drop [some (2, 6), none, some (1, v2), none, some (0, v4), some (0, v5), some (0, v6), some (0, v7), some (0, v8 + 1), none] ⟨rfl, rfl, rfl, rfl, rfl, rfl, rfl, trivial⟩ ?_
        exact (((h.2.2.2 q2).2.2.2.2.2.2 q4).2.2.1 q5).2
      · refine z_iload dX9_reach_116 rfl ?_
        refine z_bipush dX9_reach_118 (by decide) ?_
        refine z_icmp_ge (tgt := 153) dX9_reach_120 (by decide) (fun q7 => ?_) (fun q8 => ?_)
        · refine n_iinc (lo' := [some (2, 6), none, some (1, v2), none, some (0, v4), some (0, v5), some (0, v6), some (0, v7), some (0, v8 + 1), some (0, (μ 11 v8) / 4)]) dX9_reach_153 rfl (by decide) ((((h.2.2.2 q2).2.2.2.2.2.2 q4).2.2.2 q6).1 q7).1 rfl ?_
          refine z_goto (tgt := 68) dX9_reach_156 (by decide) ?_
          refine z_drop [some (2, 6), none, some (1, v2), none, some (0, v4), some (0, v5), some (0, v6), some (0, v7), some (0, v8 + 1), none] ⟨rfl, rfl, rfl, rfl, rfl, rfl, rfl, trivial⟩ ?_
          exact ((((h.2.2.2 q2).2.2.2.2.2.2 q4).2.2.2 q6).1 q7).2
        · refine z_iload dX9_reach_123 rfl ?_
          refine z_iconst dX9_reach_125 ⟨by decide, by decide⟩ ?_
          refine z_iload dX9_reach_126 rfl ?_
          refine n_ishl1 dX9_reach_128 ((((h.2.2.2 q2).2.2.2.2.2.2 q4).2.2.2 q6).2 q8).1 ?_
          refine z_ior dX9_reach_129 ((((h.2.2.2 q2).2.2.2.2.2.2 q4).2.2.2 q6).2 q8).2.1.1 ((((h.2.2.2 q2).2.2.2.2.2.2 q4).2.2.2 q6).2 q8).2.1.2 ?_
          refine n_istore (lo' := [some (2, 6), none, some (1, v2), none, some (0, ((((v4 : Int).toNat ||| ((2 : Int) ^ ((μ 11 v8) / 4 : Int).toNat : Int).toNat : Nat)) : Int)), some (0, v5), some (0, v6), some (0, v7), some (0, v8), some (0, (μ 11 v8) / 4)]) dX9_reach_130 ⟨Nat.le_of_ble_eq_true rfl, Nat.le_of_ble_eq_true rfl⟩ rfl ?_
          refine z_aload_n dX9_reach_132 rfl ?_
          refine n_getp (ji := 15) dX9_reach_133 zf_X9_58 k_6 rfl (by decide) rfl p_6_15 ?_
          refine z_iload dX9_reach_136 rfl ?_
          refine z_iload dX9_reach_138 rfl ?_
          refine n_iast dX9_reach_140 k_18 ((((h.2.2.2 q2).2.2.2.2.2.2 q4).2.2.2 q6).2 q8).2.2.1 ?_
          refine z_aload_n dX9_reach_141 rfl ?_
          refine n_getp (ji := 14) dX9_reach_142 zf_X9_55 k_6 rfl (by decide) rfl p_6_14 ?_
          refine z_iload dX9_reach_145 rfl ?_
          refine z_iload dX9_reach_147 rfl ?_
          refine n_iast dX9_reach_149 k_17 ((((h.2.2.2 q2).2.2.2.2.2.2 q4).2.2.2 q6).2 q8).2.2.2.1 ?_
          refine n_iinc (lo' := [some (2, 6), none, some (1, v2), none, some (0, ((((v4 : Int).toNat ||| ((2 : Int) ^ ((μ 11 v8) / 4 : Int).toNat : Int).toNat : Nat)) : Int)), some (0, v5 + 1), some (0, v6), some (0, v7), some (0, v8), some (0, (μ 11 v8) / 4)]) dX9_reach_150 rfl (by decide) ((((h.2.2.2 q2).2.2.2.2.2.2 q4).2.2.2 q6).2 q8).2.2.2.2.1 rfl ?_
          refine n_iinc (lo' := [some (2, 6), none, some (1, v2), none, some (0, ((((v4 : Int).toNat ||| ((2 : Int) ^ ((μ 11 v8) / 4 : Int).toNat : Int).toNat : Nat)) : Int)), some (0, v5 + 1), some (0, v6), some (0, v7), some (0, v8 + 1), some (0, (μ 11 v8) / 4)]) dX9_reach_153 rfl (by decide) ((((h.2.2.2 q2).2.2.2.2.2.2 q4).2.2.2 q6).2 q8).2.2.2.2.2.1 rfl ?_
          refine z_goto (tgt := 68) dX9_reach_156 (by decide) ?_
          refine z_drop [some (2, 6), none, some (1, v2), none, some (0, ((((v4 : Int).toNat ||| ((2 : Int) ^ ((μ 11 v8) / 4 : Int).toNat : Int).toNat : Nat)) : Int)), some (0, v5 + 1), some (0, v6), some (0, v7), some (0, v8 + 1), none] ⟨rfl, rfl, rfl, rfl, rfl, rfl, rfl, trivial⟩ ?_
          exact ((((h.2.2.2 q2).2.2.2.2.2.2 q4).2.2.2 q6).2 q8).2.2.2.2.2.2
set_option maxRecDepth 20000 in
theorem V_X9_isJoined {a b c : Int}  {μ : z_Mem} {d : Nat} {K : Int → z_Mem → Prop} (h : z_ci m_X9_reach [(2, 6), (0, a), (1, c)] μ d (fun x3 m1 => ((0 : Int) ≤ b ∧ b < 32) ∧ (((0 : Int) ≤ x3) ∧ (((x3 / 2 ^ (b : Int).toNat) % 2 = 0 → K 0 m1) ∧ (¬ (x3 / 2 ^ (b : Int).toNat) % 2 = 0 → K 1 m1))))) : z_ci m_X9_isJoined [(2, 6), (0, a), (0, b), (1, c)] μ (d + 1) K := by
  show z_R m_X9_isJoined 0 [some (2, 6), some (0, a), some (0, b), some (1, c), none] [] z_n μ (d + 1) _
  refine z_aload_n dX9_isJoined_0 rfl ?_
  refine z_iload_n dX9_isJoined_1 rfl ?_
  refine z_lload_n dX9_isJoined_2 rfl ?_
  refine n_vI (as := [(0, a), (1, c)]) (rest := []) dX9_isJoined_3 zm_X9_reach zs_X9_118 k_6 (by decide) rfl rfl (Nat.le_of_ble_eq_true rfl) (Nat.le_of_ble_eq_true rfl) h (fun x3 m1 h2 => ?_)
  refine z_iload_n dX9_isJoined_6 rfl ?_
  refine n_iushr dX9_isJoined_7 h2.1 h2.2.1 ?_
  refine z_iconst dX9_isJoined_8 ⟨by decide, by decide⟩ ?_
  refine n_iandm (k := 1) (m := 2) dX9_isJoined_9 (by decide) (by decide) ?_
  refine z_if_eq (tgt := 17) dX9_isJoined_10 (by decide) (fun q4 => ?_) (fun q5 => ?_)
  · refine z_iconst dX9_isJoined_17 ⟨by decide, by decide⟩ ?_
    exact z_zreturn dX9_isJoined_18 rfl rfl (by decide) ⟨_, rfl, (h2.2.2.1 q4)⟩
  · refine z_iconst dX9_isJoined_13 ⟨by decide, by decide⟩ ?_
    refine z_goto (tgt := 18) dX9_isJoined_14 (by decide) ?_
    exact z_zreturn dX9_isJoined_18 rfl rfl (by decide) ⟨_, rfl, (h2.2.2.2 q5)⟩
set_option maxRecDepth 20000 in
theorem V_X9_walkBack {a b c : Int}  {μ : z_Mem} {d : Nat} {K : Int → z_Mem → Prop} (h : z_ci m_X9_isJoined [(2, 6), (0, a), (0, b), (1, c)] μ d (fun x3 m1 => (¬ x3 = 0 → ((0 : Int) ≤ b ∧ b < 30) ∧ (z_ri m_X9_walkBack 23 [some (2, 6), none, none, none, none, some (0, 0), some (0, m1 18 b)] m1 (d + 1) K)) ∧ (x3 = 0 → K (-1) m1))) : z_ci m_X9_walkBack [(2, 6), (0, a), (0, b), (1, c)] μ (d + 1) K := by
  show z_R m_X9_walkBack 0 [some (2, 6), some (0, a), some (0, b), some (1, c), none, none, none] [] z_n μ (d + 1) _
  refine z_aload_n dX9_walkBack_0 rfl ?_
  refine z_iload_n dX9_walkBack_1 rfl ?_
  refine z_iload_n dX9_walkBack_2 rfl ?_
  refine z_lload_n dX9_walkBack_3 rfl ?_
  refine n_vI (as := [(0, a), (0, b), (1, c)]) (rest := []) dX9_walkBack_4 zm_X9_isJoined zs_X9_122 k_6 (by decide) rfl rfl (Nat.le_of_ble_eq_true rfl) (Nat.le_of_ble_eq_true rfl) h (fun x3 m1 h2 => ?_)
  refine z_if_ne (tgt := 12) dX9_walkBack_7 (by decide) (fun q4 => ?_) (fun q5 => ?_)
  · refine z_iconst dX9_walkBack_12 ⟨by decide, by decide⟩ ?_
    refine n_istore (lo' := [some (2, 6), some (0, a), some (0, b), some (1, c), none, some (0, 0), none]) dX9_walkBack_13 ⟨Nat.le_of_ble_eq_true rfl, Nat.le_of_ble_eq_true rfl⟩ rfl ?_
    refine z_aload_n dX9_walkBack_15 rfl ?_
    refine n_getp (ji := 15) dX9_walkBack_16 zf_X9_58 k_6 rfl (by decide) rfl p_6_15 ?_
    refine z_iload_n dX9_walkBack_19 rfl ?_
    refine n_iald dX9_walkBack_20 k_18 (h2.1 q4).1 ?_
    refine n_istore (lo' := [some (2, 6), some (0, a), some (0, b), some (1, c), none, some (0, 0), some (0, m1 18 b)]) dX9_walkBack_21 ⟨Nat.le_of_ble_eq_true rfl, Nat.le_of_ble_eq_true rfl⟩ rfl ?_
    refine z_drop [some (2, 6), none, none, none, none, some (0, 0), some (0, m1 18 b)] ⟨rfl, rfl, rfl, trivial⟩ ?_
    exact (h2.1 q4).2
  · refine z_iconst dX9_walkBack_10 ⟨by decide, by decide⟩ ?_
    exact z_ireturn dX9_walkBack_11 rfl rfl ⟨_, rfl, (h2.2 q5)⟩
set_option maxRecDepth 20000 in
theorem V_X9_walkBack_23 {v5 v6 : Int}  {μ : z_Mem} {d : Nat} {K : Int → z_Mem → Prop} (h : (v6 = (-1) → K v5 μ) ∧ (¬ v6 = (-1) → (30 ≤ v5 → K v5 μ) ∧ (v5 < 30 → z_I (v5 + 1) ∧ (((0 : Int) ≤ v6 ∧ v6 < 30) ∧ (z_ri m_X9_walkBack 23 [some (2, 6), none, none, none, none, some (0, v5 + 1), some (0, μ 18 v6)] μ (d + 1) K))))) : z_ri m_X9_walkBack 23 [some (2, 6), none, none, none, none, some (0, v5), some (0, v6)] μ (d + 1) K := by
  show z_R m_X9_walkBack 23 [some (2, 6), none, none, none, none, some (0, v5), some (0, v6)] [] z_n μ (d + 1) _
  refine z_iload dX9_walkBack_23 rfl ?_
  refine z_iconst dX9_walkBack_25 ⟨by decide, by decide⟩ ?_
  refine z_icmp_eq (tgt := 51) dX9_walkBack_26 (by decide) (fun q1 => ?_) (fun q2 => ?_)
  · refine z_iload dX9_walkBack_51 rfl ?_
    exact z_ireturn dX9_walkBack_53 rfl rfl ⟨_, rfl, (h.1 q1)⟩
  · refine z_iload dX9_walkBack_29 rfl ?_
    refine z_bipush dX9_walkBack_31 (by decide) ?_
    refine z_icmp_ge (tgt := 51) dX9_walkBack_33 (by decide) (fun q3 => ?_) (fun q4 => ?_)
    · refine z_iload dX9_walkBack_51 rfl ?_
      exact z_ireturn dX9_walkBack_53 rfl rfl ⟨_, rfl, ((h.2 q2).1 q3)⟩
    · refine n_iinc (lo' := [some (2, 6), none, none, none, none, some (0, v5 + 1), some (0, v6)]) dX9_walkBack_36 rfl (by decide) ((h.2 q2).2 q4).1 rfl ?_
      refine z_aload_n dX9_walkBack_39 rfl ?_
      refine n_getp (ji := 15) dX9_walkBack_40 zf_X9_58 k_6 rfl (by decide) rfl p_6_15 ?_
      refine z_iload dX9_walkBack_43 rfl ?_
      refine n_iald dX9_walkBack_45 k_18 ((h.2 q2).2 q4).2.1 ?_
      refine n_istore (lo' := [some (2, 6), none, none, none, none, some (0, v5 + 1), some (0, μ 18 v6)]) dX9_walkBack_46 ⟨Nat.le_of_ble_eq_true rfl, Nat.le_of_ble_eq_true rfl⟩ rfl ?_
      refine z_goto (tgt := 23) dX9_walkBack_48 (by decide) ?_
      refine z_drop [some (2, 6), none, none, none, none, some (0, v5 + 1), some (0, μ 18 v6)] ⟨rfl, rfl, rfl, trivial⟩ ?_
      exact ((h.2 q2).2 q4).2.2
set_option maxRecDepth 20000 in
theorem V_X9_faceOnWay {a b : Int}  {μ : z_Mem} {d : Nat} {K : Int → z_Mem → Prop} (h : z_ri m_X9_faceOnWay 5 [some (2, 6), none, some (0, b), some (0, a), some (0, 0)] μ d K) : z_ci m_X9_faceOnWay [(2, 6), (0, a), (0, b)] μ d K := by
  show z_R m_X9_faceOnWay 0 [some (2, 6), some (0, a), some (0, b), none, none] [] z_n μ d _
  refine z_iload_n dX9_faceOnWay_0 rfl ?_
  refine n_istore_n (lo' := [some (2, 6), some (0, a), some (0, b), some (0, a), none]) dX9_faceOnWay_1 ⟨Nat.le_of_ble_eq_true rfl, Nat.le_of_ble_eq_true rfl⟩ rfl ?_
  refine z_iconst dX9_faceOnWay_2 ⟨by decide, by decide⟩ ?_
  refine n_istore (lo' := [some (2, 6), some (0, a), some (0, b), some (0, a), some (0, 0)]) dX9_faceOnWay_3 ⟨Nat.le_of_ble_eq_true rfl, Nat.le_of_ble_eq_true rfl⟩ rfl ?_
  refine z_drop [some (2, 6), none, some (0, b), some (0, a), some (0, 0)] ⟨rfl, rfl, rfl, rfl, trivial⟩ ?_
  exact h
set_option maxRecDepth 20000 in
theorem V_X9_faceOnWay_5 {v2 v3 v4 : Int}  {μ : z_Mem} {d : Nat} {K : Int → z_Mem → Prop} (h : (v2 ≤ v4 → K v3 μ) ∧ (v4 < v2 → (v3 = (-1) → K v3 μ) ∧ (¬ v3 = (-1) → ((0 : Int) ≤ v3 ∧ v3 < 30) ∧ (z_I (v4 + 1) ∧ (z_ri m_X9_faceOnWay 5 [some (2, 6), none, some (0, v2), some (0, μ 18 v3), some (0, v4 + 1)] μ d K))))) : z_ri m_X9_faceOnWay 5 [some (2, 6), none, some (0, v2), some (0, v3), some (0, v4)] μ d K := by
  show z_R m_X9_faceOnWay 5 [some (2, 6), none, some (0, v2), some (0, v3), some (0, v4)] [] z_n μ d _
  refine z_iload dX9_faceOnWay_5 rfl ?_
  refine z_iload_n dX9_faceOnWay_7 rfl ?_
  refine z_icmp_ge (tgt := 29) dX9_faceOnWay_8 (by decide) (fun q1 => ?_) (fun q2 => ?_)
  · refine z_iload_n dX9_faceOnWay_29 rfl ?_
    exact z_ireturn dX9_faceOnWay_30 rfl rfl ⟨_, rfl, (h.1 q1)⟩
  · refine z_iload_n dX9_faceOnWay_11 rfl ?_
    refine z_iconst dX9_faceOnWay_12 ⟨by decide, by decide⟩ ?_
    refine z_icmp_eq (tgt := 29) dX9_faceOnWay_13 (by decide) (fun q3 => ?_) (fun q4 => ?_)
    · refine z_iload_n dX9_faceOnWay_29 rfl ?_
      exact z_ireturn dX9_faceOnWay_30 rfl rfl ⟨_, rfl, ((h.2 q2).1 q3)⟩
    · refine z_aload_n dX9_faceOnWay_16 rfl ?_
      refine n_getp (ji := 15) dX9_faceOnWay_17 zf_X9_58 k_6 rfl (by decide) rfl p_6_15 ?_
      refine z_iload_n dX9_faceOnWay_20 rfl ?_
      refine n_iald dX9_faceOnWay_21 k_18 ((h.2 q2).2 q4).1 ?_
      refine n_istore_n (lo' := [some (2, 6), none, some (0, v2), some (0, μ 18 v3), some (0, v4)]) dX9_faceOnWay_22 ⟨Nat.le_of_ble_eq_true rfl, Nat.le_of_ble_eq_true rfl⟩ rfl ?_
      refine n_iinc (lo' := [some (2, 6), none, some (0, v2), some (0, μ 18 v3), some (0, v4 + 1)]) dX9_faceOnWay_23 rfl (by decide) ((h.2 q2).2 q4).2.1 rfl ?_
      refine z_goto (tgt := 5) dX9_faceOnWay_26 (by decide) ?_
      refine z_drop [some (2, 6), none, some (0, v2), some (0, μ 18 v3), some (0, v4 + 1)] ⟨rfl, rfl, rfl, rfl, trivial⟩ ?_
      exact ((h.2 q2).2 q4).2.2
set_option maxRecDepth 20000 in
theorem V_X9_startTree  {μ : z_Mem} {d : Nat} {K : z_Mem → Prop} (h : z_rn m_X9_startTree 7 [some (2, 6), some (2, 21), some (0, 0)] (z_st μ 21 0 0) d K) : z_cn m_X9_startTree [(2, 6), (2, 21)] μ d K := by
  show z_R m_X9_startTree 0 [some (2, 6), some (2, 21), none] [] z_n μ d _
  refine z_aload_n dX9_startTree_0 rfl ?_
  refine z_lconst0 dX9_startTree_1 ?_
  refine n_putJ (ji := 0) dX9_startTree_2 zf_X9_126 k_21 rfl (by decide) rfl ?_
  refine z_iconst dX9_startTree_5 ⟨by decide, by decide⟩ ?_
  refine n_istore_n (lo' := [some (2, 6), some (2, 21), some (0, 0)]) dX9_startTree_6 ⟨Nat.le_of_ble_eq_true rfl, Nat.le_of_ble_eq_true rfl⟩ rfl ?_
  refine z_drop [some (2, 6), some (2, 21), some (0, 0)] ⟨rfl, rfl, rfl, trivial⟩ ?_
  exact h
set_option maxRecDepth 20000 in
theorem V_X9_startTree_7 {v2 : Int}  {μ : z_Mem} {d : Nat} {K : z_Mem → Prop} (h : (μ 6 2 ≤ v2 → ((0 : Int) ≤ μ 21 1 ∧ μ 21 1 < 30) ∧ (K (z_st (z_st μ 19 (μ 21 1) 0) 17 0 ((z_st μ 19 (μ 21 1) 0) 21 1)))) ∧ (v2 < μ 6 2 → ((0 : Int) ≤ v2 ∧ v2 < 30) ∧ (((0 : Int) ≤ v2 ∧ v2 < 30) ∧ (z_I (v2 + 1) ∧ (z_rn m_X9_startTree 7 [some (2, 6), some (2, 21), some (0, v2 + 1)] (z_st (z_st μ 19 v2 (-1)) 20 v2 0) d K))))) : z_rn m_X9_startTree 7 [some (2, 6), some (2, 21), some (0, v2)] μ d K := by
  show z_R m_X9_startTree 7 [some (2, 6), some (2, 21), some (0, v2)] [] z_n μ d _
  refine z_iload_n dX9_startTree_7 rfl ?_
  refine z_aload_n dX9_startTree_8 rfl ?_
  refine n_getf (ji := 2) (t := 0) dX9_startTree_9 zf_X9_19 k_6 rfl (by decide) rfl ?_
  refine z_icmp_ge (tgt := 35) dX9_startTree_12 (by decide) (fun q1 => ?_) (fun q2 => ?_)
  · refine z_aload_n dX9_startTree_35 rfl ?_
    refine n_getp (ji := 16) dX9_startTree_36 zf_X9_61 k_6 rfl (by decide) rfl p_6_16 ?_
    refine z_aload_n dX9_startTree_39 rfl ?_
    refine n_getf (ji := 1) (t := 0) dX9_startTree_40 zf_X9_132 k_21 rfl (by decide) rfl ?_
    refine z_iconst dX9_startTree_43 ⟨by decide, by decide⟩ ?_
    refine n_iast dX9_startTree_44 k_19 (h.1 q1).1 ?_
    refine z_aload_n dX9_startTree_45 rfl ?_
    refine n_getp (ji := 14) dX9_startTree_46 zf_X9_55 k_6 rfl (by decide) rfl p_6_14 ?_
    refine z_iconst dX9_startTree_49 ⟨by decide, by decide⟩ ?_
    refine z_aload_n dX9_startTree_50 rfl ?_
    refine n_getf (ji := 1) (t := 0) dX9_startTree_51 zf_X9_132 k_21 rfl (by decide) rfl ?_
    refine n_iast dX9_startTree_54 k_17 (by decide) ?_
    exact z_return dX9_startTree_55 rfl rfl ⟨rfl, (h.1 q1).2⟩
  · refine z_aload_n dX9_startTree_15 rfl ?_
    refine n_getp (ji := 16) dX9_startTree_16 zf_X9_61 k_6 rfl (by decide) rfl p_6_16 ?_
    refine z_iload_n dX9_startTree_19 rfl ?_
    refine z_iconst dX9_startTree_20 ⟨by decide, by decide⟩ ?_
    refine n_iast dX9_startTree_21 k_19 (h.2 q2).1 ?_
    refine z_aload_n dX9_startTree_22 rfl ?_
    refine n_getp (ji := 17) dX9_startTree_23 zf_X9_64 k_6 rfl (by decide) rfl p_6_17 ?_
    refine z_iload_n dX9_startTree_26 rfl ?_
    refine z_iconst dX9_startTree_27 ⟨by decide, by decide⟩ ?_
    refine n_iast dX9_startTree_28 k_20 (h.2 q2).2.1 ?_
    refine n_iinc (lo' := [some (2, 6), some (2, 21), some (0, v2 + 1)]) dX9_startTree_29 rfl (by decide) (h.2 q2).2.2.1 rfl ?_
    refine z_goto (tgt := 7) dX9_startTree_32 (by decide) ?_
    refine z_drop [some (2, 6), some (2, 21), some (0, v2 + 1)] ⟨rfl, rfl, rfl, trivial⟩ ?_
    exact (h.2 q2).2.2.2
set_option maxRecDepth 20000 in
theorem V_X9_growBehind {a b : Int}  {μ : z_Mem} {d : Nat} {K : Int → z_Mem → Prop} (h : ((0 : Int) ≤ a ∧ a < 120) ∧ (((0 : Int) ≤ (μ 11 a) / 4 ∧ (μ 11 a) / 4 < 30) ∧ ((¬ μ 19 ((μ 11 a) / 4) = (-1) → K b μ) ∧ (μ 19 ((μ 11 a) / 4) = (-1) → (b < 30 → ((0 : Int) ≤ a ∧ a < 120) ∧ (z_cn m_X3_setHinge [(2, 21), (0, μ 12 a)] μ d (fun m5 => ((0 : Int) ≤ a / 4 ∧ a / 4 < 30) ∧ (z_I ((m5 19 (a / 4)) + 1) ∧ (((0 : Int) ≤ (μ 11 a) / 4 ∧ (μ 11 a) / 4 < 30) ∧ (((0 : Int) ≤ b ∧ b < 30) ∧ (z_I (b + 1) ∧ (K (b + 1) (z_st (z_st m5 19 ((μ 11 a) / 4) ((m5 19 (a / 4)) + 1)) 17 b ((μ 11 a) / 4)))))))))) ∧ (30 ≤ b → K b μ))))) : z_ci m_X9_growBehind [(2, 6), (0, a), (0, b), (2, 21)] μ (d + 1) K := by
  show z_R m_X9_growBehind 0 [some (2, 6), some (0, a), some (0, b), some (2, 21), none] [] z_n μ (d + 1) _
  refine z_aload_n dX9_growBehind_0 rfl ?_
  refine n_getp (ji := 6) dX9_growBehind_1 zf_X9_31 k_6 rfl (by decide) rfl p_6_6 ?_
  refine z_iload_n dX9_growBehind_4 rfl ?_
  refine n_iald dX9_growBehind_5 k_11 h.1 ?_
  refine z_iconst dX9_growBehind_6 ⟨by decide, by decide⟩ ?_
  refine n_ishr (m := 4) dX9_growBehind_7 (by decide) (by decide) ?_
  refine n_istore (lo' := [some (2, 6), some (0, a), some (0, b), some (2, 21), some (0, (μ 11 a) / 4)]) dX9_growBehind_8 ⟨Nat.le_of_ble_eq_true rfl, Nat.le_of_ble_eq_true rfl⟩ rfl ?_
  refine z_aload_n dX9_growBehind_10 rfl ?_
  refine n_getp (ji := 16) dX9_growBehind_11 zf_X9_61 k_6 rfl (by decide) rfl p_6_16 ?_
  refine z_iload dX9_growBehind_14 rfl ?_
  refine n_iald dX9_growBehind_16 k_19 h.2.1 ?_
  refine z_iconst dX9_growBehind_17 ⟨by decide, by decide⟩ ?_
  refine z_icmp_ne (tgt := 27) dX9_growBehind_18 (by decide) (fun q1 => ?_) (fun q2 => ?_)
  · refine z_iload_n dX9_growBehind_27 rfl ?_
    exact z_ireturn dX9_growBehind_28 rfl rfl ⟨_, rfl, (h.2.2.1 q1)⟩
  · refine z_iload_n dX9_growBehind_21 rfl ?_
    refine z_bipush dX9_growBehind_22 (by decide) ?_
    refine z_icmp_lt (tgt := 29) dX9_growBehind_24 (by decide) (fun q3 => ?_) (fun q4 => ?_)
    · refine z_aload_n dX9_growBehind_29 rfl ?_
      refine z_aload_n dX9_growBehind_30 rfl ?_
      refine n_getp (ji := 7) dX9_growBehind_31 zf_X9_34 k_6 rfl (by decide) rfl p_6_7 ?_
      refine z_iload_n dX9_growBehind_34 rfl ?_
      refine n_iald dX9_growBehind_35 k_12 ((h.2.2.2 q2).1 q3).1 ?_
      refine n_vN (as := [(0, μ 12 a)]) (rest := []) dX9_growBehind_36 zm_X3_setHinge zs_X9_135 k_21 (by decide) rfl rfl (Nat.le_of_ble_eq_true rfl) (Nat.le_of_ble_eq_true rfl) ((h.2.2.2 q2).1 q3).2 (fun m5 h6 => ?_)
      refine z_aload_n dX9_growBehind_39 rfl ?_
      refine n_getp (ji := 16) dX9_growBehind_40 zf_X9_61 k_6 rfl (by decide) rfl p_6_16 ?_
      refine z_iload dX9_growBehind_43 rfl ?_
      refine z_aload_n dX9_growBehind_45 rfl ?_
      refine n_getp (ji := 16) dX9_growBehind_46 zf_X9_61 k_6 rfl (by decide) rfl p_6_16 ?_
      refine z_iload_n dX9_growBehind_49 rfl ?_
      refine z_iconst dX9_growBehind_50 ⟨by decide, by decide⟩ ?_
      refine n_ishr (m := 4) dX9_growBehind_51 (by decide) (by decide) ?_
      refine n_iald dX9_growBehind_52 k_19 h6.1 ?_
      refine z_iconst dX9_growBehind_53 ⟨by decide, by decide⟩ ?_
      refine z_iadd dX9_growBehind_54 h6.2.1 ?_
      refine n_iast dX9_growBehind_55 k_19 h6.2.2.1 ?_
      refine z_aload_n dX9_growBehind_56 rfl ?_
      refine n_getp (ji := 14) dX9_growBehind_57 zf_X9_55 k_6 rfl (by decide) rfl p_6_14 ?_
      refine z_iload_n dX9_growBehind_60 rfl ?_
      refine z_iload dX9_growBehind_61 rfl ?_
      refine n_iast dX9_growBehind_63 k_17 h6.2.2.2.1 ?_
      refine z_iload_n dX9_growBehind_64 rfl ?_
      refine z_iconst dX9_growBehind_65 ⟨by decide, by decide⟩ ?_
      refine z_iadd dX9_growBehind_66 h6.2.2.2.2.1 ?_
      exact z_ireturn dX9_growBehind_67 rfl rfl ⟨_, rfl, h6.2.2.2.2.2⟩
    · refine z_iload_n dX9_growBehind_27 rfl ?_
      exact z_ireturn dX9_growBehind_28 rfl rfl ⟨_, rfl, ((h.2.2.2 q2).2 q4)⟩
set_option maxRecDepth 20000 in
theorem V_X9_growByBreadth  {μ : z_Mem} {d : Nat} {K : Int → z_Mem → Prop} (h : z_cn m_X9_startTree [(2, 6), (2, 21)] μ d (fun m1 => z_ri m_X9_growByBreadth 9 [some (2, 6), some (2, 21), some (0, 1), some (0, 0), none] m1 (d + 1) K)) : z_ci m_X9_growByBreadth [(2, 6), (2, 21)] μ (d + 1) K := by
  show z_R m_X9_growByBreadth 0 [some (2, 6), some (2, 21), none, none, none] [] z_n μ (d + 1) _
  refine z_aload_n dX9_growByBreadth_0 rfl ?_
  refine z_aload_n dX9_growByBreadth_1 rfl ?_
  refine n_vN (as := [(2, 21)]) (rest := []) dX9_growByBreadth_2 zm_X9_startTree zs_X9_139 k_6 (by decide) rfl rfl (Nat.le_of_ble_eq_true rfl) (Nat.le_of_ble_eq_true rfl) h (fun m1 h2 => ?_)
  refine z_iconst dX9_growByBreadth_5 ⟨by decide, by decide⟩ ?_
  refine n_istore_n (lo' := [some (2, 6), some (2, 21), some (0, 1), none, none]) dX9_growByBreadth_6 ⟨Nat.le_of_ble_eq_true rfl, Nat.le_of_ble_eq_true rfl⟩ rfl ?_
  refine z_iconst dX9_growByBreadth_7 ⟨by decide, by decide⟩ ?_
  refine n_istore_n (lo' := [some (2, 6), some (2, 21), some (0, 1), some (0, 0), none]) dX9_growByBreadth_8 ⟨Nat.le_of_ble_eq_true rfl, Nat.le_of_ble_eq_true rfl⟩ rfl ?_
  refine z_drop [some (2, 6), some (2, 21), some (0, 1), some (0, 0), none] ⟨rfl, rfl, rfl, rfl, trivial⟩ ?_
  exact h2
set_option maxRecDepth 20000 in
theorem V_X9_growByBreadth_9 {v2 v3 : Int}  {μ : z_Mem} {d : Nat} {K : Int → z_Mem → Prop} (h : (v2 ≤ v3 → z_ci m_X9_greatestDepth [(2, 6)] μ d (fun x5 m3 => K x5 m3)) ∧ (v3 < v2 → (30 ≤ v3 → z_ci m_X9_greatestDepth [(2, 6)] μ d (fun x10 m8 => K x10 m8)) ∧ (v3 < 30 → z_ri m_X9_growByBreadth 23 [some (2, 6), some (2, 21), some (0, v2), some (0, v3), some (0, 0)] μ (d + 1) K))) : z_ri m_X9_growByBreadth 9 [some (2, 6), some (2, 21), some (0, v2), some (0, v3), none] μ (d + 1) K := by
  show z_R m_X9_growByBreadth 9 [some (2, 6), some (2, 21), some (0, v2), some (0, v3), none] [] z_n μ (d + 1) _
  refine z_iload_n dX9_growByBreadth_9 rfl ?_
  refine z_iload_n dX9_growByBreadth_10 rfl ?_
  refine z_icmp_ge (tgt := 59) dX9_growByBreadth_11 (by decide) (fun q1 => ?_) (fun q2 => ?_)
  · refine z_aload_n dX9_growByBreadth_59 rfl ?_
    refine n_vI (as := []) (rest := []) dX9_growByBreadth_60 zm_X9_greatestDepth zs_X9_147 k_6 (by decide) rfl rfl (Nat.le_of_ble_eq_true rfl) (Nat.le_of_ble_eq_true rfl) (h.1 q1) (fun x5 m3 h4 => ?_)
    exact z_ireturn dX9_growByBreadth_63 rfl rfl ⟨_, rfl, h4⟩
  · refine z_iload_n dX9_growByBreadth_14 rfl ?_
    refine z_bipush dX9_growByBreadth_15 (by decide) ?_
    refine z_icmp_ge (tgt := 59) dX9_growByBreadth_17 (by decide) (fun q6 => ?_) (fun q7 => ?_)
    · refine z_aload_n dX9_growByBreadth_59 rfl ?_
      refine n_vI (as := []) (rest := []) dX9_growByBreadth_60 zm_X9_greatestDepth zs_X9_147 k_6 (by decide) rfl rfl (Nat.le_of_ble_eq_true rfl) (Nat.le_of_ble_eq_true rfl) ((h.2 q2).1 q6) (fun x10 m8 h9 => ?_)
      exact z_ireturn dX9_growByBreadth_63 rfl rfl ⟨_, rfl, h9⟩
    · refine z_iconst dX9_growByBreadth_20 ⟨by decide, by decide⟩ ?_
      refine n_istore (lo' := [some (2, 6), some (2, 21), some (0, v2), some (0, v3), some (0, 0)]) dX9_growByBreadth_21 ⟨Nat.le_of_ble_eq_true rfl, Nat.le_of_ble_eq_true rfl⟩ rfl ?_
      refine z_drop [some (2, 6), some (2, 21), some (0, v2), some (0, v3), some (0, 0)] ⟨rfl, rfl, rfl, rfl, rfl, trivial⟩ ?_
      exact ((h.2 q2).2 q7)
set_option maxRecDepth 20000 in
theorem V_X9_growByBreadth_23 {v2 v3 v4 : Int}  {μ : z_Mem} {d : Nat} {K : Int → z_Mem → Prop} (h : (4 ≤ v4 → z_I (v3 + 1) ∧ (z_ri m_X9_growByBreadth 9 [some (2, 6), some (2, 21), some (0, v2), some (0, v3 + 1), none] μ (d + 1) K)) ∧ (v4 < 4 → ((0 : Int) ≤ v3 ∧ v3 < 30) ∧ (z_I (4 * (μ 17 v3)) ∧ (z_I ((4 * (μ 17 v3)) + v4) ∧ (z_ci m_X9_growBehind [(2, 6), (0, (4 * (μ 17 v3)) + v4), (0, v2), (2, 21)] μ d (fun x5 m3 => z_I (v4 + 1) ∧ (z_ri m_X9_growByBreadth 23 [some (2, 6), some (2, 21), some (0, x5), some (0, v3), some (0, v4 + 1)] m3 (d + 1) K))))))) : z_ri m_X9_growByBreadth 23 [some (2, 6), some (2, 21), some (0, v2), some (0, v3), some (0, v4)] μ (d + 1) K := by
  show z_R m_X9_growByBreadth 23 [some (2, 6), some (2, 21), some (0, v2), some (0, v3), some (0, v4)] [] z_n μ (d + 1) _
  refine z_iload dX9_growByBreadth_23 rfl ?_
  refine z_iconst dX9_growByBreadth_25 ⟨by decide, by decide⟩ ?_
  refine z_icmp_ge (tgt := 53) dX9_growByBreadth_26 (by decide) (fun q1 => ?_) (fun q2 => ?_)
  · refine n_iinc (lo' := [some (2, 6), some (2, 21), some (0, v2), some (0, v3 + 1), some (0, v4)]) dX9_growByBreadth_53 rfl (by decide) (h.1 q1).1 rfl ?_
    refine z_goto (tgt := 9) dX9_growByBreadth_56 (by decide) ?_
    refine z_drop [some (2, 6), some (2, 21), some (0, v2), some (0, v3 + 1), none] ⟨rfl, rfl, rfl, rfl, trivial⟩ ?_
    exact (h.1 q1).2
  · refine z_aload_n dX9_growByBreadth_29 rfl ?_
    refine z_iconst dX9_growByBreadth_30 ⟨by decide, by decide⟩ ?_
    refine z_aload_n dX9_growByBreadth_31 rfl ?_
    refine n_getp (ji := 14) dX9_growByBreadth_32 zf_X9_55 k_6 rfl (by decide) rfl p_6_14 ?_
    refine z_iload_n dX9_growByBreadth_35 rfl ?_
    refine n_iald dX9_growByBreadth_36 k_17 (h.2 q2).1 ?_
    refine z_imul dX9_growByBreadth_37 (h.2 q2).2.1 ?_
    refine z_iload dX9_growByBreadth_38 rfl ?_
    refine z_iadd dX9_growByBreadth_40 (h.2 q2).2.2.1 ?_
    refine z_iload_n dX9_growByBreadth_41 rfl ?_
    refine z_aload_n dX9_growByBreadth_42 rfl ?_
    refine n_vI (as := [(0, (4 * (μ 17 v3)) + v4), (0, v2), (2, 21)]) (rest := []) dX9_growByBreadth_43 zm_X9_growBehind zs_X9_143 k_6 (by decide) rfl rfl (Nat.le_of_ble_eq_true rfl) (Nat.le_of_ble_eq_true rfl) (h.2 q2).2.2.2 (fun x5 m3 h4 => ?_)
    refine n_istore_n (lo' := [some (2, 6), some (2, 21), some (0, x5), some (0, v3), some (0, v4)]) dX9_growByBreadth_46 ⟨Nat.le_of_ble_eq_true rfl, Nat.le_of_ble_eq_true rfl⟩ rfl ?_
    refine n_iinc (lo' := [some (2, 6), some (2, 21), some (0, x5), some (0, v3), some (0, v4 + 1)]) dX9_growByBreadth_47 rfl (by decide) h4.1 rfl ?_
    refine z_goto (tgt := 23) dX9_growByBreadth_50 (by decide) ?_
    refine z_drop [some (2, 6), some (2, 21), some (0, x5), some (0, v3), some (0, v4 + 1)] ⟨rfl, rfl, rfl, rfl, rfl, trivial⟩ ?_
    exact h4.2
set_option maxRecDepth 20000 in
theorem V_X9_growByDepth  {μ : z_Mem} {d : Nat} {K : Int → z_Mem → Prop} (h : z_cn m_X9_startTree [(2, 6), (2, 21)] μ d (fun m1 => z_ri m_X9_growByDepth 9 [some (2, 6), some (2, 21), some (0, 1), some (0, 0), none] m1 (d + 1) K)) : z_ci m_X9_growByDepth [(2, 6), (2, 21)] μ (d + 1) K := by
  show z_R m_X9_growByDepth 0 [some (2, 6), some (2, 21), none, none, none] [] z_n μ (d + 1) _
  refine z_aload_n dX9_growByDepth_0 rfl ?_
  refine z_aload_n dX9_growByDepth_1 rfl ?_
  refine n_vN (as := [(2, 21)]) (rest := []) dX9_growByDepth_2 zm_X9_startTree zs_X9_139 k_6 (by decide) rfl rfl (Nat.le_of_ble_eq_true rfl) (Nat.le_of_ble_eq_true rfl) h (fun m1 h2 => ?_)
  refine z_iconst dX9_growByDepth_5 ⟨by decide, by decide⟩ ?_
  refine n_istore_n (lo' := [some (2, 6), some (2, 21), some (0, 1), none, none]) dX9_growByDepth_6 ⟨Nat.le_of_ble_eq_true rfl, Nat.le_of_ble_eq_true rfl⟩ rfl ?_
  refine z_iconst dX9_growByDepth_7 ⟨by decide, by decide⟩ ?_
  refine n_istore_n (lo' := [some (2, 6), some (2, 21), some (0, 1), some (0, 0), none]) dX9_growByDepth_8 ⟨Nat.le_of_ble_eq_true rfl, Nat.le_of_ble_eq_true rfl⟩ rfl ?_
  refine z_drop [some (2, 6), some (2, 21), some (0, 1), some (0, 0), none] ⟨rfl, rfl, rfl, rfl, trivial⟩ ?_
  exact h2
set_option maxRecDepth 20000 in
theorem V_X9_growByDepth_9 {v2 v3 : Int}  {μ : z_Mem} {d : Nat} {K : Int → z_Mem → Prop} (h : (150 ≤ v3 → z_ci m_X9_greatestDepth [(2, 6)] μ d (fun x5 m3 => K x5 m3)) ∧ (v3 < 150 → (v2 ≤ 0 → z_ci m_X9_greatestDepth [(2, 6)] μ d (fun x10 m8 => K x10 m8)) ∧ (0 < v2 → z_I (v2 - 1) ∧ (((0 : Int) ≤ v2 - 1 ∧ v2 - 1 < 30) ∧ (((0 : Int) ≤ μ 17 (v2 - 1) ∧ μ 17 (v2 - 1) < 30) ∧ ((μ 20 (μ 17 (v2 - 1)) ≤ 3 → z_I (4 * (μ 17 (v2 - 1))) ∧ (((0 : Int) ≤ μ 17 (v2 - 1) ∧ μ 17 (v2 - 1) < 30) ∧ (z_I ((4 * (μ 17 (v2 - 1))) + (μ 20 (μ 17 (v2 - 1)))) ∧ (z_ci m_X9_growBehind [(2, 6), (0, (4 * (μ 17 (v2 - 1))) + (μ 20 (μ 17 (v2 - 1)))), (0, v2), (2, 21)] μ d (fun x15 m13 => ((0 : Int) ≤ μ 17 (v2 - 1) ∧ μ 17 (v2 - 1) < 30) ∧ (z_I ((m13 20 (μ 17 (v2 - 1))) + 1) ∧ (((0 : Int) ≤ μ 17 (v2 - 1) ∧ μ 17 (v2 - 1) < 30) ∧ (z_I (v3 + 1) ∧ (z_ri m_X9_growByDepth 9 [some (2, 6), some (2, 21), some (0, x15), some (0, v3 + 1), none] (z_st m13 20 (μ 17 (v2 - 1)) ((m13 20 (μ 17 (v2 - 1))) + 1)) (d + 1) K))))))))) ∧ (3 < μ 20 (μ 17 (v2 - 1)) → z_I (v2 + (-1)) ∧ (z_I (v3 + 1) ∧ (z_ri m_X9_growByDepth 9 [some (2, 6), some (2, 21), some (0, v2 + (-1)), some (0, v3 + 1), none] μ (d + 1) K))))))))) : z_ri m_X9_growByDepth 9 [some (2, 6), some (2, 21), some (0, v2), some (0, v3), none] μ (d + 1) K := by
  show z_R m_X9_growByDepth 9 [some (2, 6), some (2, 21), some (0, v2), some (0, v3), none] [] z_n μ (d + 1) _
  refine z_iload_n dX9_growByDepth_9 rfl ?_
  refine z_sipush dX9_growByDepth_10 (by decide) ?_
  refine z_icmp_ge (tgt := 83) dX9_growByDepth_13 (by decide) (fun q1 => ?_) (fun q2 => ?_)
  · refine z_aload_n dX9_growByDepth_83 rfl ?_
    refine n_vI (as := []) (rest := []) dX9_growByDepth_84 zm_X9_greatestDepth zs_X9_147 k_6 (by decide) rfl rfl (Nat.le_of_ble_eq_true rfl) (Nat.le_of_ble_eq_true rfl) (h.1 q1) (fun x5 m3 h4 => ?_)
    exact z_ireturn dX9_growByDepth_87 rfl rfl ⟨_, rfl, h4⟩
  · refine z_iload_n dX9_growByDepth_16 rfl ?_
    refine z_if_le (tgt := 83) dX9_growByDepth_17 (by decide) (fun q6 => ?_) (fun q7 => ?_)
    · refine z_aload_n dX9_growByDepth_83 rfl ?_
      refine n_vI (as := []) (rest := []) dX9_growByDepth_84 zm_X9_greatestDepth zs_X9_147 k_6 (by decide) rfl rfl (Nat.le_of_ble_eq_true rfl) (Nat.le_of_ble_eq_true rfl) ((h.2 q2).1 q6) (fun x10 m8 h9 => ?_)
      exact z_ireturn dX9_growByDepth_87 rfl rfl ⟨_, rfl, h9⟩
    · refine z_aload_n dX9_growByDepth_20 rfl ?_
      refine n_getp (ji := 14) dX9_growByDepth_21 zf_X9_55 k_6 rfl (by decide) rfl p_6_14 ?_
      refine z_iload_n dX9_growByDepth_24 rfl ?_
      refine z_iconst dX9_growByDepth_25 ⟨by decide, by decide⟩ ?_
      refine z_isub dX9_growByDepth_26 ((h.2 q2).2 q7).1 ?_
      refine n_iald dX9_growByDepth_27 k_17 ((h.2 q2).2 q7).2.1 ?_
      refine n_istore (lo' := [some (2, 6), some (2, 21), some (0, v2), some (0, v3), some (0, μ 17 (v2 - 1))]) dX9_growByDepth_28 ⟨Nat.le_of_ble_eq_true rfl, Nat.le_of_ble_eq_true rfl⟩ rfl ?_
      refine z_aload_n dX9_growByDepth_30 rfl ?_
      refine n_getp (ji := 17) dX9_growByDepth_31 zf_X9_64 k_6 rfl (by decide) rfl p_6_17 ?_
      refine z_iload dX9_growByDepth_34 rfl ?_
      refine n_iald dX9_growByDepth_36 k_20 ((h.2 q2).2 q7).2.2.1 ?_
      refine z_iconst dX9_growByDepth_37 ⟨by decide, by decide⟩ ?_
      refine z_icmp_le (tgt := 47) dX9_growByDepth_38 (by decide) (fun q11 => ?_) (fun q12 => ?_)
      · refine z_aload_n dX9_growByDepth_47 rfl ?_
        refine z_iconst dX9_growByDepth_48 ⟨by decide, by decide⟩ ?_
        refine z_iload dX9_growByDepth_49 rfl ?_
        refine z_imul dX9_growByDepth_51 (((h.2 q2).2 q7).2.2.2.1 q11).1 ?_
        refine z_aload_n dX9_growByDepth_52 rfl ?_
        refine n_getp (ji := 17) dX9_growByDepth_53 zf_X9_64 k_6 rfl (by decide) rfl p_6_17 ?_
        refine z_iload dX9_growByDepth_56 rfl ?_
        refine n_iald dX9_growByDepth_58 k_20 (((h.2 q2).2 q7).2.2.2.1 q11).2.1 ?_
        refine z_iadd dX9_growByDepth_59 (((h.2 q2).2 q7).2.2.2.1 q11).2.2.1 ?_
        refine z_iload_n dX9_growByDepth_60 rfl ?_
        refine z_aload_n dX9_growByDepth_61 rfl ?_
        refine n_vI (as := [(0, (4 * (μ 17 (v2 - 1))) + (μ 20 (μ 17 (v2 - 1)))), (0, v2), (2, 21)]) (rest := []) dX9_growByDepth_62 zm_X9_growBehind zs_X9_143 k_6 (by decide) rfl rfl (Nat.le_of_ble_eq_true rfl) (Nat.le_of_ble_eq_true rfl) (((h.2 q2).2 q7).2.2.2.1 q11).2.2.2 (fun x15 m13 h14 => ?_)
        refine n_istore_n (lo' := [some (2, 6), some (2, 21), some (0, x15), some (0, v3), some (0, μ 17 (v2 - 1))]) dX9_growByDepth_65 ⟨Nat.le_of_ble_eq_true rfl, Nat.le_of_ble_eq_true rfl⟩ rfl ?_
        refine z_aload_n dX9_growByDepth_66 rfl ?_
        refine n_getp (ji := 17) dX9_growByDepth_67 zf_X9_64 k_6 rfl (by decide) rfl p_6_17 ?_
        refine z_iload dX9_growByDepth_70 rfl ?_
        refine z_dup2 dX9_growByDepth_72 rfl rfl ?_
        refine n_iald dX9_growByDepth_73 k_20 h14.1 ?_
        refine z_iconst dX9_growByDepth_74 ⟨by decide, by decide⟩ ?_
        refine z_iadd dX9_growByDepth_75 h14.2.1 ?_
        refine n_iast dX9_growByDepth_76 k_20 h14.2.2.1 ?_
        refine n_iinc (lo' := [some (2, 6), some (2, 21), some (0, x15), some (0, v3 + 1), some (0, μ 17 (v2 - 1))]) dX9_growByDepth_77 rfl (by decide) h14.2.2.2.1 rfl ?_
        refine z_goto (tgt := 9) dX9_growByDepth_80 (by decide) ?_
        refine z_drop [some (2, 6), some (2, 21), some (0, x15), some (0, v3 + 1), none] ⟨rfl, rfl, rfl, rfl, trivial⟩ ?_
        exact h14.2.2.2.2
      · refine n_iinc (lo' := [some (2, 6), some (2, 21), some (0, v2 + (-1)), some (0, v3), some (0, μ 17 (v2 - 1))]) dX9_growByDepth_41 rfl (by decide) (((h.2 q2).2 q7).2.2.2.2 q12).1 rfl ?_
        refine z_goto (tgt := 77) dX9_growByDepth_44 (by decide) ?_
        refine n_iinc (lo' := [some (2, 6), some (2, 21), some (0, v2 + (-1)), some (0, v3 + 1), some (0, μ 17 (v2 - 1))]) dX9_growByDepth_77 rfl (by decide) (((h.2 q2).2 q7).2.2.2.2 q12).2.1 rfl ?_
        refine z_goto (tgt := 9) dX9_growByDepth_80 (by decide) ?_
        refine z_drop [some (2, 6), some (2, 21), some (0, v2 + (-1)), some (0, v3 + 1), none] ⟨rfl, rfl, rfl, rfl, trivial⟩ ?_
        exact (((h.2 q2).2 q7).2.2.2.2 q12).2.2
set_option maxRecDepth 20000 in
theorem V_X9_greatestDepth  {μ : z_Mem} {d : Nat} {K : Int → z_Mem → Prop} (h : z_ri m_X9_greatestDepth 4 [some (2, 6), some (0, 0), some (0, 0)] μ (d + 1) K) : z_ci m_X9_greatestDepth [(2, 6)] μ (d + 1) K := by
  show z_R m_X9_greatestDepth 0 [some (2, 6), none, none] [] z_n μ (d + 1) _
  refine z_iconst dX9_greatestDepth_0 ⟨by decide, by decide⟩ ?_
  refine n_istore_n (lo' := [some (2, 6), some (0, 0), none]) dX9_greatestDepth_1 ⟨Nat.le_of_ble_eq_true rfl, Nat.le_of_ble_eq_true rfl⟩ rfl ?_
  refine z_iconst dX9_greatestDepth_2 ⟨by decide, by decide⟩ ?_
  refine n_istore_n (lo' := [some (2, 6), some (0, 0), some (0, 0)]) dX9_greatestDepth_3 ⟨Nat.le_of_ble_eq_true rfl, Nat.le_of_ble_eq_true rfl⟩ rfl ?_
  refine z_drop [some (2, 6), some (0, 0), some (0, 0)] ⟨rfl, rfl, rfl, trivial⟩ ?_
  exact h
set_option maxRecDepth 20000 in
theorem V_X9_greatestDepth_4 {v1 v2 : Int}  {μ : z_Mem} {d : Nat} {K : Int → z_Mem → Prop} (h : (μ 6 2 ≤ v2 → K v1 μ) ∧ (v2 < μ 6 2 → ((0 : Int) ≤ v2 ∧ v2 < 30) ∧ (z_I (v2 + 1) ∧ (z_ri m_X9_greatestDepth 4 [some (2, 6), some (0, max v1 (μ 19 v2)), some (0, v2 + 1)] μ (d + 1) K)))) : z_ri m_X9_greatestDepth 4 [some (2, 6), some (0, v1), some (0, v2)] μ (d + 1) K := by
  show z_R m_X9_greatestDepth 4 [some (2, 6), some (0, v1), some (0, v2)] [] z_n μ (d + 1) _
  refine z_iload_n dX9_greatestDepth_4 rfl ?_
  refine z_aload_n dX9_greatestDepth_5 rfl ?_
  refine n_getf (ji := 2) (t := 0) dX9_greatestDepth_6 zf_X9_19 k_6 rfl (by decide) rfl ?_
  refine z_icmp_ge (tgt := 29) dX9_greatestDepth_9 (by decide) (fun q1 => ?_) (fun q2 => ?_)
  · refine z_iload_n dX9_greatestDepth_29 rfl ?_
    exact z_ireturn dX9_greatestDepth_30 rfl rfl ⟨_, rfl, (h.1 q1)⟩
  · refine z_iload_n dX9_greatestDepth_12 rfl ?_
    refine z_aload_n dX9_greatestDepth_13 rfl ?_
    refine n_getp (ji := 16) dX9_greatestDepth_14 zf_X9_61 k_6 rfl (by decide) rfl p_6_16 ?_
    refine z_iload_n dX9_greatestDepth_17 rfl ?_
    refine n_iald dX9_greatestDepth_18 k_19 (h.2 q2).1 ?_
    refine z_mmax dX9_greatestDepth_19 zq_674 zq_675 zq_133 zq_676 (Nat.le_of_ble_eq_true rfl) ?_
    refine n_istore_n (lo' := [some (2, 6), some (0, max v1 (μ 19 v2)), some (0, v2)]) dX9_greatestDepth_22 ⟨Nat.le_of_ble_eq_true rfl, Nat.le_of_ble_eq_true rfl⟩ rfl ?_
    refine n_iinc (lo' := [some (2, 6), some (0, max v1 (μ 19 v2)), some (0, v2 + 1)]) dX9_greatestDepth_23 rfl (by decide) (h.2 q2).2.1 rfl ?_
    refine z_goto (tgt := 4) dX9_greatestDepth_26 (by decide) ?_
    refine z_drop [some (2, 6), some (0, max v1 (μ 19 v2)), some (0, v2 + 1)] ⟨rfl, rfl, rfl, trivial⟩ ?_
    exact (h.2 q2).2.2
set_option maxRecDepth 20000 in
theorem V_J13_bitCount_95d88 {a : Int}  {μ : z_Mem} {d : Nat} {K : Int → z_Mem → Prop} (h : ((0 : Int) ≤ a) ∧ (((0 : Int) ≤ a / 2 ^ (1 : Int).toNat ∧ (0 : Int) ≤ 6148914691236517205) ∧ (z_J (a - ((((a / 2 ^ (1 : Int).toNat : Int).toNat &&& (6148914691236517205 : Int).toNat : Nat)) : Int)) ∧ (((0 : Int) ≤ a - ((((a / 2 ^ (1 : Int).toNat : Int).toNat &&& (6148914691236517205 : Int).toNat : Nat)) : Int) ∧ (0 : Int) ≤ 3689348814741910323) ∧ (((0 : Int) ≤ a - ((((a / 2 ^ (1 : Int).toNat : Int).toNat &&& (6148914691236517205 : Int).toNat : Nat)) : Int)) ∧ (((0 : Int) ≤ (a - ((((a / 2 ^ (1 : Int).toNat : Int).toNat &&& (6148914691236517205 : Int).toNat : Nat)) : Int)) / 2 ^ (2 : Int).toNat ∧ (0 : Int) ≤ 3689348814741910323) ∧ (z_J (((((a - ((((a / 2 ^ (1 : Int).toNat : Int).toNat &&& (6148914691236517205 : Int).toNat : Nat)) : Int) : Int).toNat &&& (3689348814741910323 : Int).toNat : Nat)) : Int) + (((((a - ((((a / 2 ^ (1 : Int).toNat : Int).toNat &&& (6148914691236517205 : Int).toNat : Nat)) : Int)) / 2 ^ (2 : Int).toNat : Int).toNat &&& (3689348814741910323 : Int).toNat : Nat)) : Int)) ∧ (((0 : Int) ≤ ((((a - ((((a / 2 ^ (1 : Int).toNat : Int).toNat &&& (6148914691236517205 : Int).toNat : Nat)) : Int) : Int).toNat &&& (3689348814741910323 : Int).toNat : Nat)) : Int) + (((((a - ((((a / 2 ^ (1 : Int).toNat : Int).toNat &&& (6148914691236517205 : Int).toNat : Nat)) : Int)) / 2 ^ (2 : Int).toNat : Int).toNat &&& (3689348814741910323 : Int).toNat : Nat)) : Int)) ∧ (z_J ((((((a - ((((a / 2 ^ (1 : Int).toNat : Int).toNat &&& (6148914691236517205 : Int).toNat : Nat)) : Int) : Int).toNat &&& (3689348814741910323 : Int).toNat : Nat)) : Int) + (((((a - ((((a / 2 ^ (1 : Int).toNat : Int).toNat &&& (6148914691236517205 : Int).toNat : Nat)) : Int)) / 2 ^ (2 : Int).toNat : Int).toNat &&& (3689348814741910323 : Int).toNat : Nat)) : Int)) + ((((((a - ((((a / 2 ^ (1 : Int).toNat : Int).toNat &&& (6148914691236517205 : Int).toNat : Nat)) : Int) : Int).toNat &&& (3689348814741910323 : Int).toNat : Nat)) : Int) + (((((a - ((((a / 2 ^ (1 : Int).toNat : Int).toNat &&& (6148914691236517205 : Int).toNat : Nat)) : Int)) / 2 ^ (2 : Int).toNat : Int).toNat &&& (3689348814741910323 : Int).toNat : Nat)) : Int)) / 2 ^ (4 : Int).toNat)) ∧ (((0 : Int) ≤ (((((a - ((((a / 2 ^ (1 : Int).toNat : Int).toNat &&& (6148914691236517205 : Int).toNat : Nat)) : Int) : Int).toNat &&& (3689348814741910323 : Int).toNat : Nat)) : Int) + (((((a - ((((a / 2 ^ (1 : Int).toNat : Int).toNat &&& (6148914691236517205 : Int).toNat : Nat)) : Int)) / 2 ^ (2 : Int).toNat : Int).toNat &&& (3689348814741910323 : Int).toNat : Nat)) : Int)) + ((((((a - ((((a / 2 ^ (1 : Int).toNat : Int).toNat &&& (6148914691236517205 : Int).toNat : Nat)) : Int) : Int).toNat &&& (3689348814741910323 : Int).toNat : Nat)) : Int) + (((((a - ((((a / 2 ^ (1 : Int).toNat : Int).toNat &&& (6148914691236517205 : Int).toNat : Nat)) : Int)) / 2 ^ (2 : Int).toNat : Int).toNat &&& (3689348814741910323 : Int).toNat : Nat)) : Int)) / 2 ^ (4 : Int).toNat) ∧ (0 : Int) ≤ 1085102592571150095) ∧ (((0 : Int) ≤ (((((((((a - ((((a / 2 ^ (1 : Int).toNat : Int).toNat &&& (6148914691236517205 : Int).toNat : Nat)) : Int) : Int).toNat &&& (3689348814741910323 : Int).toNat : Nat)) : Int) + (((((a - ((((a / 2 ^ (1 : Int).toNat : Int).toNat &&& (6148914691236517205 : Int).toNat : Nat)) : Int)) / 2 ^ (2 : Int).toNat : Int).toNat &&& (3689348814741910323 : Int).toNat : Nat)) : Int)) + ((((((a - ((((a / 2 ^ (1 : Int).toNat : Int).toNat &&& (6148914691236517205 : Int).toNat : Nat)) : Int) : Int).toNat &&& (3689348814741910323 : Int).toNat : Nat)) : Int) + (((((a - ((((a / 2 ^ (1 : Int).toNat : Int).toNat &&& (6148914691236517205 : Int).toNat : Nat)) : Int)) / 2 ^ (2 : Int).toNat : Int).toNat &&& (3689348814741910323 : Int).toNat : Nat)) : Int)) / 2 ^ (4 : Int).toNat) : Int).toNat &&& (1085102592571150095 : Int).toNat : Nat)) : Int)) ∧ (z_J ((((((((((a - ((((a / 2 ^ (1 : Int).toNat : Int).toNat &&& (6148914691236517205 : Int).toNat : Nat)) : Int) : Int).toNat &&& (3689348814741910323 : Int).toNat : Nat)) : Int) + (((((a - ((((a / 2 ^ (1 : Int).toNat : Int).toNat &&& (6148914691236517205 : Int).toNat : Nat)) : Int)) / 2 ^ (2 : Int).toNat : Int).toNat &&& (3689348814741910323 : Int).toNat : Nat)) : Int)) + ((((((a - ((((a / 2 ^ (1 : Int).toNat : Int).toNat &&& (6148914691236517205 : Int).toNat : Nat)) : Int) : Int).toNat &&& (3689348814741910323 : Int).toNat : Nat)) : Int) + (((((a - ((((a / 2 ^ (1 : Int).toNat : Int).toNat &&& (6148914691236517205 : Int).toNat : Nat)) : Int)) / 2 ^ (2 : Int).toNat : Int).toNat &&& (3689348814741910323 : Int).toNat : Nat)) : Int)) / 2 ^ (4 : Int).toNat) : Int).toNat &&& (1085102592571150095 : Int).toNat : Nat)) : Int) + ((((((((((a - ((((a / 2 ^ (1 : Int).toNat : Int).toNat &&& (6148914691236517205 : Int).toNat : Nat)) : Int) : Int).toNat &&& (3689348814741910323 : Int).toNat : Nat)) : Int) + (((((a - ((((a / 2 ^ (1 : Int).toNat : Int).toNat &&& (6148914691236517205 : Int).toNat : Nat)) : Int)) / 2 ^ (2 : Int).toNat : Int).toNat &&& (3689348814741910323 : Int).toNat : Nat)) : Int)) + ((((((a - ((((a / 2 ^ (1 : Int).toNat : Int).toNat &&& (6148914691236517205 : Int).toNat : Nat)) : Int) : Int).toNat &&& (3689348814741910323 : Int).toNat : Nat)) : Int) + (((((a - ((((a / 2 ^ (1 : Int).toNat : Int).toNat &&& (6148914691236517205 : Int).toNat : Nat)) : Int)) / 2 ^ (2 : Int).toNat : Int).toNat &&& (3689348814741910323 : Int).toNat : Nat)) : Int)) / 2 ^ (4 : Int).toNat) : Int).toNat &&& (1085102592571150095 : Int).toNat : Nat)) : Int) / 2 ^ (8 : Int).toNat)) ∧ (((0 : Int) ≤ (((((((((a - ((((a / 2 ^ (1 : Int).toNat : Int).toNat &&& (6148914691236517205 : Int).toNat : Nat)) : Int) : Int).toNat &&& (3689348814741910323 : Int).toNat : Nat)) : Int) + (((((a - ((((a / 2 ^ (1 : Int).toNat : Int).toNat &&& (6148914691236517205 : Int).toNat : Nat)) : Int)) / 2 ^ (2 : Int).toNat : Int).toNat &&& (3689348814741910323 : Int).toNat : Nat)) : Int)) + ((((((a - ((((a / 2 ^ (1 : Int).toNat : Int).toNat &&& (6148914691236517205 : Int).toNat : Nat)) : Int) : Int).toNat &&& (3689348814741910323 : Int).toNat : Nat)) : Int) + (((((a - ((((a / 2 ^ (1 : Int).toNat : Int).toNat &&& (6148914691236517205 : Int).toNat : Nat)) : Int)) / 2 ^ (2 : Int).toNat : Int).toNat &&& (3689348814741910323 : Int).toNat : Nat)) : Int)) / 2 ^ (4 : Int).toNat) : Int).toNat &&& (1085102592571150095 : Int).toNat : Nat)) : Int) + ((((((((((a - ((((a / 2 ^ (1 : Int).toNat : Int).toNat &&& (6148914691236517205 : Int).toNat : Nat)) : Int) : Int).toNat &&& (3689348814741910323 : Int).toNat : Nat)) : Int) + (((((a - ((((a / 2 ^ (1 : Int).toNat : Int).toNat &&& (6148914691236517205 : Int).toNat : Nat)) : Int)) / 2 ^ (2 : Int).toNat : Int).toNat &&& (3689348814741910323 : Int).toNat : Nat)) : Int)) + ((((((a - ((((a / 2 ^ (1 : Int).toNat : Int).toNat &&& (6148914691236517205 : Int).toNat : Nat)) : Int) : Int).toNat &&& (3689348814741910323 : Int).toNat : Nat)) : Int) + (((((a - ((((a / 2 ^ (1 : Int).toNat : Int).toNat &&& (6148914691236517205 : Int).toNat : Nat)) : Int)) / 2 ^ (2 : Int).toNat : Int).toNat &&& (3689348814741910323 : Int).toNat : Nat)) : Int)) / 2 ^ (4 : Int).toNat) : Int).toNat &&& (1085102592571150095 : Int).toNat : Nat)) : Int) / 2 ^ (8 : Int).toNat)) ∧ (z_J (((((((((((a - ((((a / 2 ^ (1 : Int).toNat : Int).toNat &&& (6148914691236517205 : Int).toNat : Nat)) : Int) : Int).toNat &&& (3689348814741910323 : Int).toNat : Nat)) : Int) + (((((a - ((((a / 2 ^ (1 : Int).toNat : Int).toNat &&& (6148914691236517205 : Int).toNat : Nat)) : Int)) / 2 ^ (2 : Int).toNat : Int).toNat &&& (3689348814741910323 : Int).toNat : Nat)) : Int)) + ((((((a - ((((a / 2 ^ (1 : Int).toNat : Int).toNat &&& (6148914691236517205 : Int).toNat : Nat)) : Int) : Int).toNat &&& (3689348814741910323 : Int).toNat : Nat)) : Int) + (((((a - ((((a / 2 ^ (1 : Int).toNat : Int).toNat &&& (6148914691236517205 : Int).toNat : Nat)) : Int)) / 2 ^ (2 : Int).toNat : Int).toNat &&& (3689348814741910323 : Int).toNat : Nat)) : Int)) / 2 ^ (4 : Int).toNat) : Int).toNat &&& (1085102592571150095 : Int).toNat : Nat)) : Int) + ((((((((((a - ((((a / 2 ^ (1 : Int).toNat : Int).toNat &&& (6148914691236517205 : Int).toNat : Nat)) : Int) : Int).toNat &&& (3689348814741910323 : Int).toNat : Nat)) : Int) + (((((a - ((((a / 2 ^ (1 : Int).toNat : Int).toNat &&& (6148914691236517205 : Int).toNat : Nat)) : Int)) / 2 ^ (2 : Int).toNat : Int).toNat &&& (3689348814741910323 : Int).toNat : Nat)) : Int)) + ((((((a - ((((a / 2 ^ (1 : Int).toNat : Int).toNat &&& (6148914691236517205 : Int).toNat : Nat)) : Int) : Int).toNat &&& (3689348814741910323 : Int).toNat : Nat)) : Int) + (((((a - ((((a / 2 ^ (1 : Int).toNat : Int).toNat &&& (6148914691236517205 : Int).toNat : Nat)) : Int)) / 2 ^ (2 : Int).toNat : Int).toNat &&& (3689348814741910323 : Int).toNat : Nat)) : Int)) / 2 ^ (4 : Int).toNat) : Int).toNat &&& (1085102592571150095 : Int).toNat : Nat)) : Int) / 2 ^ (8 : Int).toNat)) + (((((((((((a - ((((a / 2 ^ (1 : Int).toNat : Int).toNat &&& (6148914691236517205 : Int).toNat : Nat)) : Int) : Int).toNat &&& (3689348814741910323 : Int).toNat : Nat)) : Int) + (((((a - ((((a / 2 ^ (1 : Int).toNat : Int).toNat &&& (6148914691236517205 : Int).toNat : Nat)) : Int)) / 2 ^ (2 : Int).toNat : Int).toNat &&& (3689348814741910323 : Int).toNat : Nat)) : Int)) + ((((((a - ((((a / 2 ^ (1 : Int).toNat : Int).toNat &&& (6148914691236517205 : Int).toNat : Nat)) : Int) : Int).toNat &&& (3689348814741910323 : Int).toNat : Nat)) : Int) + (((((a - ((((a / 2 ^ (1 : Int).toNat : Int).toNat &&& (6148914691236517205 : Int).toNat : Nat)) : Int)) / 2 ^ (2 : Int).toNat : Int).toNat &&& (3689348814741910323 : Int).toNat : Nat)) : Int)) / 2 ^ (4 : Int).toNat) : Int).toNat &&& (1085102592571150095 : Int).toNat : Nat)) : Int) + ((((((((((a - ((((a / 2 ^ (1 : Int).toNat : Int).toNat &&& (6148914691236517205 : Int).toNat : Nat)) : Int) : Int).toNat &&& (3689348814741910323 : Int).toNat : Nat)) : Int) + (((((a - ((((a / 2 ^ (1 : Int).toNat : Int).toNat &&& (6148914691236517205 : Int).toNat : Nat)) : Int)) / 2 ^ (2 : Int).toNat : Int).toNat &&& (3689348814741910323 : Int).toNat : Nat)) : Int)) + ((((((a - ((((a / 2 ^ (1 : Int).toNat : Int).toNat &&& (6148914691236517205 : Int).toNat : Nat)) : Int) : Int).toNat &&& (3689348814741910323 : Int).toNat : Nat)) : Int) + (((((a - ((((a / 2 ^ (1 : Int).toNat : Int).toNat &&& (6148914691236517205 : Int).toNat : Nat)) : Int)) / 2 ^ (2 : Int).toNat : Int).toNat &&& (3689348814741910323 : Int).toNat : Nat)) : Int)) / 2 ^ (4 : Int).toNat) : Int).toNat &&& (1085102592571150095 : Int).toNat : Nat)) : Int) / 2 ^ (8 : Int).toNat)) / 2 ^ (16 : Int).toNat)) ∧ (((0 : Int) ≤ ((((((((((a - ((((a / 2 ^ (1 : Int).toNat : Int).toNat &&& (6148914691236517205 : Int).toNat : Nat)) : Int) : Int).toNat &&& (3689348814741910323 : Int).toNat : Nat)) : Int) + (((((a - ((((a / 2 ^ (1 : Int).toNat : Int).toNat &&& (6148914691236517205 : Int).toNat : Nat)) : Int)) / 2 ^ (2 : Int).toNat : Int).toNat &&& (3689348814741910323 : Int).toNat : Nat)) : Int)) + ((((((a - ((((a / 2 ^ (1 : Int).toNat : Int).toNat &&& (6148914691236517205 : Int).toNat : Nat)) : Int) : Int).toNat &&& (3689348814741910323 : Int).toNat : Nat)) : Int) + (((((a - ((((a / 2 ^ (1 : Int).toNat : Int).toNat &&& (6148914691236517205 : Int).toNat : Nat)) : Int)) / 2 ^ (2 : Int).toNat : Int).toNat &&& (3689348814741910323 : Int).toNat : Nat)) : Int)) / 2 ^ (4 : Int).toNat) : Int).toNat &&& (1085102592571150095 : Int).toNat : Nat)) : Int) + ((((((((((a - ((((a / 2 ^ (1 : Int).toNat : Int).toNat &&& (6148914691236517205 : Int).toNat : Nat)) : Int) : Int).toNat &&& (3689348814741910323 : Int).toNat : Nat)) : Int) + (((((a - ((((a / 2 ^ (1 : Int).toNat : Int).toNat &&& (6148914691236517205 : Int).toNat : Nat)) : Int)) / 2 ^ (2 : Int).toNat : Int).toNat &&& (3689348814741910323 : Int).toNat : Nat)) : Int)) + ((((((a - ((((a / 2 ^ (1 : Int).toNat : Int).toNat &&& (6148914691236517205 : Int).toNat : Nat)) : Int) : Int).toNat &&& (3689348814741910323 : Int).toNat : Nat)) : Int) + (((((a - ((((a / 2 ^ (1 : Int).toNat : Int).toNat &&& (6148914691236517205 : Int).toNat : Nat)) : Int)) / 2 ^ (2 : Int).toNat : Int).toNat &&& (3689348814741910323 : Int).toNat : Nat)) : Int)) / 2 ^ (4 : Int).toNat) : Int).toNat &&& (1085102592571150095 : Int).toNat : Nat)) : Int) / 2 ^ (8 : Int).toNat)) + (((((((((((a - ((((a / 2 ^ (1 : Int).toNat : Int).toNat &&& (6148914691236517205 : Int).toNat : Nat)) : Int) : Int).toNat &&& (3689348814741910323 : Int).toNat : Nat)) : Int) + (((((a - ((((a / 2 ^ (1 : Int).toNat : Int).toNat &&& (6148914691236517205 : Int).toNat : Nat)) : Int)) / 2 ^ (2 : Int).toNat : Int).toNat &&& (3689348814741910323 : Int).toNat : Nat)) : Int)) + ((((((a - ((((a / 2 ^ (1 : Int).toNat : Int).toNat &&& (6148914691236517205 : Int).toNat : Nat)) : Int) : Int).toNat &&& (3689348814741910323 : Int).toNat : Nat)) : Int) + (((((a - ((((a / 2 ^ (1 : Int).toNat : Int).toNat &&& (6148914691236517205 : Int).toNat : Nat)) : Int)) / 2 ^ (2 : Int).toNat : Int).toNat &&& (3689348814741910323 : Int).toNat : Nat)) : Int)) / 2 ^ (4 : Int).toNat) : Int).toNat &&& (1085102592571150095 : Int).toNat : Nat)) : Int) + ((((((((((a - ((((a / 2 ^ (1 : Int).toNat : Int).toNat &&& (6148914691236517205 : Int).toNat : Nat)) : Int) : Int).toNat &&& (3689348814741910323 : Int).toNat : Nat)) : Int) + (((((a - ((((a / 2 ^ (1 : Int).toNat : Int).toNat &&& (6148914691236517205 : Int).toNat : Nat)) : Int)) / 2 ^ (2 : Int).toNat : Int).toNat &&& (3689348814741910323 : Int).toNat : Nat)) : Int)) + ((((((a - ((((a / 2 ^ (1 : Int).toNat : Int).toNat &&& (6148914691236517205 : Int).toNat : Nat)) : Int) : Int).toNat &&& (3689348814741910323 : Int).toNat : Nat)) : Int) + (((((a - ((((a / 2 ^ (1 : Int).toNat : Int).toNat &&& (6148914691236517205 : Int).toNat : Nat)) : Int)) / 2 ^ (2 : Int).toNat : Int).toNat &&& (3689348814741910323 : Int).toNat : Nat)) : Int)) / 2 ^ (4 : Int).toNat) : Int).toNat &&& (1085102592571150095 : Int).toNat : Nat)) : Int) / 2 ^ (8 : Int).toNat)) / 2 ^ (16 : Int).toNat)) ∧ (z_J ((((((((((((a - ((((a / 2 ^ (1 : Int).toNat : Int).toNat &&& (6148914691236517205 : Int).toNat : Nat)) : Int) : Int).toNat &&& (3689348814741910323 : Int).toNat : Nat)) : Int) + (((((a - ((((a / 2 ^ (1 : Int).toNat : Int).toNat &&& (6148914691236517205 : Int).toNat : Nat)) : Int)) / 2 ^ (2 : Int).toNat : Int).toNat &&& (3689348814741910323 : Int).toNat : Nat)) : Int)) + ((((((a - ((((a / 2 ^ (1 : Int).toNat : Int).toNat &&& (6148914691236517205 : Int).toNat : Nat)) : Int) : Int).toNat &&& (3689348814741910323 : Int).toNat : Nat)) : Int) + (((((a - ((((a / 2 ^ (1 : Int).toNat : Int).toNat &&& (6148914691236517205 : Int).toNat : Nat)) : Int)) / 2 ^ (2 : Int).toNat : Int).toNat &&& (3689348814741910323 : Int).toNat : Nat)) : Int)) / 2 ^ (4 : Int).toNat) : Int).toNat &&& (1085102592571150095 : Int).toNat : Nat)) : Int) + ((((((((((a - ((((a / 2 ^ (1 : Int).toNat : Int).toNat &&& (6148914691236517205 : Int).toNat : Nat)) : Int) : Int).toNat &&& (3689348814741910323 : Int).toNat : Nat)) : Int) + (((((a - ((((a / 2 ^ (1 : Int).toNat : Int).toNat &&& (6148914691236517205 : Int).toNat : Nat)) : Int)) / 2 ^ (2 : Int).toNat : Int).toNat &&& (3689348814741910323 : Int).toNat : Nat)) : Int)) + ((((((a - ((((a / 2 ^ (1 : Int).toNat : Int).toNat &&& (6148914691236517205 : Int).toNat : Nat)) : Int) : Int).toNat &&& (3689348814741910323 : Int).toNat : Nat)) : Int) + (((((a - ((((a / 2 ^ (1 : Int).toNat : Int).toNat &&& (6148914691236517205 : Int).toNat : Nat)) : Int)) / 2 ^ (2 : Int).toNat : Int).toNat &&& (3689348814741910323 : Int).toNat : Nat)) : Int)) / 2 ^ (4 : Int).toNat) : Int).toNat &&& (1085102592571150095 : Int).toNat : Nat)) : Int) / 2 ^ (8 : Int).toNat)) + (((((((((((a - ((((a / 2 ^ (1 : Int).toNat : Int).toNat &&& (6148914691236517205 : Int).toNat : Nat)) : Int) : Int).toNat &&& (3689348814741910323 : Int).toNat : Nat)) : Int) + (((((a - ((((a / 2 ^ (1 : Int).toNat : Int).toNat &&& (6148914691236517205 : Int).toNat : Nat)) : Int)) / 2 ^ (2 : Int).toNat : Int).toNat &&& (3689348814741910323 : Int).toNat : Nat)) : Int)) + ((((((a - ((((a / 2 ^ (1 : Int).toNat : Int).toNat &&& (6148914691236517205 : Int).toNat : Nat)) : Int) : Int).toNat &&& (3689348814741910323 : Int).toNat : Nat)) : Int) + (((((a - ((((a / 2 ^ (1 : Int).toNat : Int).toNat &&& (6148914691236517205 : Int).toNat : Nat)) : Int)) / 2 ^ (2 : Int).toNat : Int).toNat &&& (3689348814741910323 : Int).toNat : Nat)) : Int)) / 2 ^ (4 : Int).toNat) : Int).toNat &&& (1085102592571150095 : Int).toNat : Nat)) : Int) + ((((((((((a - ((((a / 2 ^ (1 : Int).toNat : Int).toNat &&& (6148914691236517205 : Int).toNat : Nat)) : Int) : Int).toNat &&& (3689348814741910323 : Int).toNat : Nat)) : Int) + (((((a - ((((a / 2 ^ (1 : Int).toNat : Int).toNat &&& (6148914691236517205 : Int).toNat : Nat)) : Int)) / 2 ^ (2 : Int).toNat : Int).toNat &&& (3689348814741910323 : Int).toNat : Nat)) : Int)) + ((((((a - ((((a / 2 ^ (1 : Int).toNat : Int).toNat &&& (6148914691236517205 : Int).toNat : Nat)) : Int) : Int).toNat &&& (3689348814741910323 : Int).toNat : Nat)) : Int) + (((((a - ((((a / 2 ^ (1 : Int).toNat : Int).toNat &&& (6148914691236517205 : Int).toNat : Nat)) : Int)) / 2 ^ (2 : Int).toNat : Int).toNat &&& (3689348814741910323 : Int).toNat : Nat)) : Int)) / 2 ^ (4 : Int).toNat) : Int).toNat &&& (1085102592571150095 : Int).toNat : Nat)) : Int) / 2 ^ (8 : Int).toNat)) / 2 ^ (16 : Int).toNat)) + ((((((((((((a - ((((a / 2 ^ (1 : Int).toNat : Int).toNat &&& (6148914691236517205 : Int).toNat : Nat)) : Int) : Int).toNat &&& (3689348814741910323 : Int).toNat : Nat)) : Int) + (((((a - ((((a / 2 ^ (1 : Int).toNat : Int).toNat &&& (6148914691236517205 : Int).toNat : Nat)) : Int)) / 2 ^ (2 : Int).toNat : Int).toNat &&& (3689348814741910323 : Int).toNat : Nat)) : Int)) + ((((((a - ((((a / 2 ^ (1 : Int).toNat : Int).toNat &&& (6148914691236517205 : Int).toNat : Nat)) : Int) : Int).toNat &&& (3689348814741910323 : Int).toNat : Nat)) : Int) + (((((a - ((((a / 2 ^ (1 : Int).toNat : Int).toNat &&& (6148914691236517205 : Int).toNat : Nat)) : Int)) / 2 ^ (2 : Int).toNat : Int).toNat &&& (3689348814741910323 : Int).toNat : Nat)) : Int)) / 2 ^ (4 : Int).toNat) : Int).toNat &&& (1085102592571150095 : Int).toNat : Nat)) : Int) + ((((((((((a - ((((a / 2 ^ (1 : Int).toNat : Int).toNat &&& (6148914691236517205 : Int).toNat : Nat)) : Int) : Int).toNat &&& (3689348814741910323 : Int).toNat : Nat)) : Int) + (((((a - ((((a / 2 ^ (1 : Int).toNat : Int).toNat &&& (6148914691236517205 : Int).toNat : Nat)) : Int)) / 2 ^ (2 : Int).toNat : Int).toNat &&& (3689348814741910323 : Int).toNat : Nat)) : Int)) + ((((((a - ((((a / 2 ^ (1 : Int).toNat : Int).toNat &&& (6148914691236517205 : Int).toNat : Nat)) : Int) : Int).toNat &&& (3689348814741910323 : Int).toNat : Nat)) : Int) + (((((a - ((((a / 2 ^ (1 : Int).toNat : Int).toNat &&& (6148914691236517205 : Int).toNat : Nat)) : Int)) / 2 ^ (2 : Int).toNat : Int).toNat &&& (3689348814741910323 : Int).toNat : Nat)) : Int)) / 2 ^ (4 : Int).toNat) : Int).toNat &&& (1085102592571150095 : Int).toNat : Nat)) : Int) / 2 ^ (8 : Int).toNat)) + (((((((((((a - ((((a / 2 ^ (1 : Int).toNat : Int).toNat &&& (6148914691236517205 : Int).toNat : Nat)) : Int) : Int).toNat &&& (3689348814741910323 : Int).toNat : Nat)) : Int) + (((((a - ((((a / 2 ^ (1 : Int).toNat : Int).toNat &&& (6148914691236517205 : Int).toNat : Nat)) : Int)) / 2 ^ (2 : Int).toNat : Int).toNat &&& (3689348814741910323 : Int).toNat : Nat)) : Int)) + ((((((a - ((((a / 2 ^ (1 : Int).toNat : Int).toNat &&& (6148914691236517205 : Int).toNat : Nat)) : Int) : Int).toNat &&& (3689348814741910323 : Int).toNat : Nat)) : Int) + (((((a - ((((a / 2 ^ (1 : Int).toNat : Int).toNat &&& (6148914691236517205 : Int).toNat : Nat)) : Int)) / 2 ^ (2 : Int).toNat : Int).toNat &&& (3689348814741910323 : Int).toNat : Nat)) : Int)) / 2 ^ (4 : Int).toNat) : Int).toNat &&& (1085102592571150095 : Int).toNat : Nat)) : Int) + ((((((((((a - ((((a / 2 ^ (1 : Int).toNat : Int).toNat &&& (6148914691236517205 : Int).toNat : Nat)) : Int) : Int).toNat &&& (3689348814741910323 : Int).toNat : Nat)) : Int) + (((((a - ((((a / 2 ^ (1 : Int).toNat : Int).toNat &&& (6148914691236517205 : Int).toNat : Nat)) : Int)) / 2 ^ (2 : Int).toNat : Int).toNat &&& (3689348814741910323 : Int).toNat : Nat)) : Int)) + ((((((a - ((((a / 2 ^ (1 : Int).toNat : Int).toNat &&& (6148914691236517205 : Int).toNat : Nat)) : Int) : Int).toNat &&& (3689348814741910323 : Int).toNat : Nat)) : Int) + (((((a - ((((a / 2 ^ (1 : Int).toNat : Int).toNat &&& (6148914691236517205 : Int).toNat : Nat)) : Int)) / 2 ^ (2 : Int).toNat : Int).toNat &&& (3689348814741910323 : Int).toNat : Nat)) : Int)) / 2 ^ (4 : Int).toNat) : Int).toNat &&& (1085102592571150095 : Int).toNat : Nat)) : Int) / 2 ^ (8 : Int).toNat)) / 2 ^ (16 : Int).toNat)) / 2 ^ (32 : Int).toNat)) ∧ (K ((Int.bmod ((((((((((((a - ((((a / 2 ^ (1 : Int).toNat : Int).toNat &&& (6148914691236517205 : Int).toNat : Nat)) : Int) : Int).toNat &&& (3689348814741910323 : Int).toNat : Nat)) : Int) + (((((a - ((((a / 2 ^ (1 : Int).toNat : Int).toNat &&& (6148914691236517205 : Int).toNat : Nat)) : Int)) / 2 ^ (2 : Int).toNat : Int).toNat &&& (3689348814741910323 : Int).toNat : Nat)) : Int)) + ((((((a - ((((a / 2 ^ (1 : Int).toNat : Int).toNat &&& (6148914691236517205 : Int).toNat : Nat)) : Int) : Int).toNat &&& (3689348814741910323 : Int).toNat : Nat)) : Int) + (((((a - ((((a / 2 ^ (1 : Int).toNat : Int).toNat &&& (6148914691236517205 : Int).toNat : Nat)) : Int)) / 2 ^ (2 : Int).toNat : Int).toNat &&& (3689348814741910323 : Int).toNat : Nat)) : Int)) / 2 ^ (4 : Int).toNat) : Int).toNat &&& (1085102592571150095 : Int).toNat : Nat)) : Int) + ((((((((((a - ((((a / 2 ^ (1 : Int).toNat : Int).toNat &&& (6148914691236517205 : Int).toNat : Nat)) : Int) : Int).toNat &&& (3689348814741910323 : Int).toNat : Nat)) : Int) + (((((a - ((((a / 2 ^ (1 : Int).toNat : Int).toNat &&& (6148914691236517205 : Int).toNat : Nat)) : Int)) / 2 ^ (2 : Int).toNat : Int).toNat &&& (3689348814741910323 : Int).toNat : Nat)) : Int)) + ((((((a - ((((a / 2 ^ (1 : Int).toNat : Int).toNat &&& (6148914691236517205 : Int).toNat : Nat)) : Int) : Int).toNat &&& (3689348814741910323 : Int).toNat : Nat)) : Int) + (((((a - ((((a / 2 ^ (1 : Int).toNat : Int).toNat &&& (6148914691236517205 : Int).toNat : Nat)) : Int)) / 2 ^ (2 : Int).toNat : Int).toNat &&& (3689348814741910323 : Int).toNat : Nat)) : Int)) / 2 ^ (4 : Int).toNat) : Int).toNat &&& (1085102592571150095 : Int).toNat : Nat)) : Int) / 2 ^ (8 : Int).toNat)) + (((((((((((a - ((((a / 2 ^ (1 : Int).toNat : Int).toNat &&& (6148914691236517205 : Int).toNat : Nat)) : Int) : Int).toNat &&& (3689348814741910323 : Int).toNat : Nat)) : Int) + (((((a - ((((a / 2 ^ (1 : Int).toNat : Int).toNat &&& (6148914691236517205 : Int).toNat : Nat)) : Int)) / 2 ^ (2 : Int).toNat : Int).toNat &&& (3689348814741910323 : Int).toNat : Nat)) : Int)) + ((((((a - ((((a / 2 ^ (1 : Int).toNat : Int).toNat &&& (6148914691236517205 : Int).toNat : Nat)) : Int) : Int).toNat &&& (3689348814741910323 : Int).toNat : Nat)) : Int) + (((((a - ((((a / 2 ^ (1 : Int).toNat : Int).toNat &&& (6148914691236517205 : Int).toNat : Nat)) : Int)) / 2 ^ (2 : Int).toNat : Int).toNat &&& (3689348814741910323 : Int).toNat : Nat)) : Int)) / 2 ^ (4 : Int).toNat) : Int).toNat &&& (1085102592571150095 : Int).toNat : Nat)) : Int) + ((((((((((a - ((((a / 2 ^ (1 : Int).toNat : Int).toNat &&& (6148914691236517205 : Int).toNat : Nat)) : Int) : Int).toNat &&& (3689348814741910323 : Int).toNat : Nat)) : Int) + (((((a - ((((a / 2 ^ (1 : Int).toNat : Int).toNat &&& (6148914691236517205 : Int).toNat : Nat)) : Int)) / 2 ^ (2 : Int).toNat : Int).toNat &&& (3689348814741910323 : Int).toNat : Nat)) : Int)) + ((((((a - ((((a / 2 ^ (1 : Int).toNat : Int).toNat &&& (6148914691236517205 : Int).toNat : Nat)) : Int) : Int).toNat &&& (3689348814741910323 : Int).toNat : Nat)) : Int) + (((((a - ((((a / 2 ^ (1 : Int).toNat : Int).toNat &&& (6148914691236517205 : Int).toNat : Nat)) : Int)) / 2 ^ (2 : Int).toNat : Int).toNat &&& (3689348814741910323 : Int).toNat : Nat)) : Int)) / 2 ^ (4 : Int).toNat) : Int).toNat &&& (1085102592571150095 : Int).toNat : Nat)) : Int) / 2 ^ (8 : Int).toNat)) / 2 ^ (16 : Int).toNat)) + ((((((((((((a - ((((a / 2 ^ (1 : Int).toNat : Int).toNat &&& (6148914691236517205 : Int).toNat : Nat)) : Int) : Int).toNat &&& (3689348814741910323 : Int).toNat : Nat)) : Int) + (((((a - ((((a / 2 ^ (1 : Int).toNat : Int).toNat &&& (6148914691236517205 : Int).toNat : Nat)) : Int)) / 2 ^ (2 : Int).toNat : Int).toNat &&& (3689348814741910323 : Int).toNat : Nat)) : Int)) + ((((((a - ((((a / 2 ^ (1 : Int).toNat : Int).toNat &&& (6148914691236517205 : Int).toNat : Nat)) : Int) : Int).toNat &&& (3689348814741910323 : Int).toNat : Nat)) : Int) + (((((a - ((((a / 2 ^ (1 : Int).toNat : Int).toNat &&& (6148914691236517205 : Int).toNat : Nat)) : Int)) / 2 ^ (2 : Int).toNat : Int).toNat &&& (3689348814741910323 : Int).toNat : Nat)) : Int)) / 2 ^ (4 : Int).toNat) : Int).toNat &&& (1085102592571150095 : Int).toNat : Nat)) : Int) + ((((((((((a - ((((a / 2 ^ (1 : Int).toNat : Int).toNat &&& (6148914691236517205 : Int).toNat : Nat)) : Int) : Int).toNat &&& (3689348814741910323 : Int).toNat : Nat)) : Int) + (((((a - ((((a / 2 ^ (1 : Int).toNat : Int).toNat &&& (6148914691236517205 : Int).toNat : Nat)) : Int)) / 2 ^ (2 : Int).toNat : Int).toNat &&& (3689348814741910323 : Int).toNat : Nat)) : Int)) + ((((((a - ((((a / 2 ^ (1 : Int).toNat : Int).toNat &&& (6148914691236517205 : Int).toNat : Nat)) : Int) : Int).toNat &&& (3689348814741910323 : Int).toNat : Nat)) : Int) + (((((a - ((((a / 2 ^ (1 : Int).toNat : Int).toNat &&& (6148914691236517205 : Int).toNat : Nat)) : Int)) / 2 ^ (2 : Int).toNat : Int).toNat &&& (3689348814741910323 : Int).toNat : Nat)) : Int)) / 2 ^ (4 : Int).toNat) : Int).toNat &&& (1085102592571150095 : Int).toNat : Nat)) : Int) / 2 ^ (8 : Int).toNat)) + (((((((((((a - ((((a / 2 ^ (1 : Int).toNat : Int).toNat &&& (6148914691236517205 : Int).toNat : Nat)) : Int) : Int).toNat &&& (3689348814741910323 : Int).toNat : Nat)) : Int) + (((((a - ((((a / 2 ^ (1 : Int).toNat : Int).toNat &&& (6148914691236517205 : Int).toNat : Nat)) : Int)) / 2 ^ (2 : Int).toNat : Int).toNat &&& (3689348814741910323 : Int).toNat : Nat)) : Int)) + ((((((a - ((((a / 2 ^ (1 : Int).toNat : Int).toNat &&& (6148914691236517205 : Int).toNat : Nat)) : Int) : Int).toNat &&& (3689348814741910323 : Int).toNat : Nat)) : Int) + (((((a - ((((a / 2 ^ (1 : Int).toNat : Int).toNat &&& (6148914691236517205 : Int).toNat : Nat)) : Int)) / 2 ^ (2 : Int).toNat : Int).toNat &&& (3689348814741910323 : Int).toNat : Nat)) : Int)) / 2 ^ (4 : Int).toNat) : Int).toNat &&& (1085102592571150095 : Int).toNat : Nat)) : Int) + ((((((((((a - ((((a / 2 ^ (1 : Int).toNat : Int).toNat &&& (6148914691236517205 : Int).toNat : Nat)) : Int) : Int).toNat &&& (3689348814741910323 : Int).toNat : Nat)) : Int) + (((((a - ((((a / 2 ^ (1 : Int).toNat : Int).toNat &&& (6148914691236517205 : Int).toNat : Nat)) : Int)) / 2 ^ (2 : Int).toNat : Int).toNat &&& (3689348814741910323 : Int).toNat : Nat)) : Int)) + ((((((a - ((((a / 2 ^ (1 : Int).toNat : Int).toNat &&& (6148914691236517205 : Int).toNat : Nat)) : Int) : Int).toNat &&& (3689348814741910323 : Int).toNat : Nat)) : Int) + (((((a - ((((a / 2 ^ (1 : Int).toNat : Int).toNat &&& (6148914691236517205 : Int).toNat : Nat)) : Int)) / 2 ^ (2 : Int).toNat : Int).toNat &&& (3689348814741910323 : Int).toNat : Nat)) : Int)) / 2 ^ (4 : Int).toNat) : Int).toNat &&& (1085102592571150095 : Int).toNat : Nat)) : Int) / 2 ^ (8 : Int).toNat)) / 2 ^ (16 : Int).toNat)) / 2 ^ (32 : Int).toNat)) 4294967296) % 128) μ))))))))))))))))) : z_ci m_J13_bitCount_95d88 [(1, a)] μ d K := by
  show z_R m_J13_bitCount_95d88 0 [some (1, a), none] [] z_n μ d _
  refine z_lload_n dJ13_bitCount_95d88_0 rfl ?_
  refine z_lload_n dJ13_bitCount_95d88_1 rfl ?_
  refine z_iconst dJ13_bitCount_95d88_2 ⟨by decide, by decide⟩ ?_
  refine n_lushr dJ13_bitCount_95d88_3 (by decide) h.1 ?_
  refine z_ldc2 (n := 6148914691236517205) dJ13_bitCount_95d88_4 zc_786 ⟨by decide, by decide⟩ ?_
  refine z_land dJ13_bitCount_95d88_7 h.2.1.1 h.2.1.2 ?_
  refine z_lsub dJ13_bitCount_95d88_8 h.2.2.1 ?_
  refine n_lstore_n (lo' := [some (1, a - ((((a / 2 ^ (1 : Int).toNat : Int).toNat &&& (6148914691236517205 : Int).toNat : Nat)) : Int)), none]) dJ13_bitCount_95d88_9 ⟨Nat.le_of_ble_eq_true rfl, Nat.le_of_ble_eq_true rfl⟩ rfl ?_
  refine z_lload_n dJ13_bitCount_95d88_10 rfl ?_
  refine z_ldc2 (n := 3689348814741910323) dJ13_bitCount_95d88_11 zc_787 ⟨by decide, by decide⟩ ?_
  refine z_land dJ13_bitCount_95d88_14 h.2.2.2.1.1 h.2.2.2.1.2 ?_
  refine z_lload_n dJ13_bitCount_95d88_15 rfl ?_
  refine z_iconst dJ13_bitCount_95d88_16 ⟨by decide, by decide⟩ ?_
  refine n_lushr dJ13_bitCount_95d88_17 (by decide) h.2.2.2.2.1 ?_
  refine z_ldc2 (n := 3689348814741910323) dJ13_bitCount_95d88_18 zc_787 ⟨by decide, by decide⟩ ?_
  refine z_land dJ13_bitCount_95d88_21 h.2.2.2.2.2.1.1 h.2.2.2.2.2.1.2 ?_
  refine z_ladd dJ13_bitCount_95d88_22 h.2.2.2.2.2.2.1 ?_
  refine n_lstore_n (lo' := [some (1, ((((a - ((((a / 2 ^ (1 : Int).toNat : Int).toNat &&& (6148914691236517205 : Int).toNat : Nat)) : Int) : Int).toNat &&& (3689348814741910323 : Int).toNat : Nat)) : Int) + (((((a - ((((a / 2 ^ (1 : Int).toNat : Int).toNat &&& (6148914691236517205 : Int).toNat : Nat)) : Int)) / 2 ^ (2 : Int).toNat : Int).toNat &&& (3689348814741910323 : Int).toNat : Nat)) : Int)), none]) dJ13_bitCount_95d88_23 ⟨Nat.le_of_ble_eq_true rfl, Nat.le_of_ble_eq_true rfl⟩ rfl ?_
  refine z_lload_n dJ13_bitCount_95d88_24 rfl ?_
  refine z_lload_n dJ13_bitCount_95d88_25 rfl ?_
  refine z_iconst dJ13_bitCount_95d88_26 ⟨by decide, by decide⟩ ?_
  refine n_lushr dJ13_bitCount_95d88_27 (by decide) h.2.2.2.2.2.2.2.1 ?_
  refine z_ladd dJ13_bitCount_95d88_28 h.2.2.2.2.2.2.2.2.1 ?_
  refine z_ldc2 (n := 1085102592571150095) dJ13_bitCount_95d88_29 zc_788 ⟨by decide, by decide⟩ ?_
  refine z_land dJ13_bitCount_95d88_32 h.2.2.2.2.2.2.2.2.2.1.1 h.2.2.2.2.2.2.2.2.2.1.2 ?_
  refine n_lstore_n (lo' := [some (1, (((((((((a - ((((a / 2 ^ (1 : Int).toNat : Int).toNat &&& (6148914691236517205 : Int).toNat : Nat)) : Int) : Int).toNat &&& (3689348814741910323 : Int).toNat : Nat)) : Int) + (((((a - ((((a / 2 ^ (1 : Int).toNat : Int).toNat &&& (6148914691236517205 : Int).toNat : Nat)) : Int)) / 2 ^ (2 : Int).toNat : Int).toNat &&& (3689348814741910323 : Int).toNat : Nat)) : Int)) + ((((((a - ((((a / 2 ^ (1 : Int).toNat : Int).toNat &&& (6148914691236517205 : Int).toNat : Nat)) : Int) : Int).toNat &&& (3689348814741910323 : Int).toNat : Nat)) : Int) + (((((a - ((((a / 2 ^ (1 : Int).toNat : Int).toNat &&& (6148914691236517205 : Int).toNat : Nat)) : Int)) / 2 ^ (2 : Int).toNat : Int).toNat &&& (3689348814741910323 : Int).toNat : Nat)) : Int)) / 2 ^ (4 : Int).toNat) : Int).toNat &&& (1085102592571150095 : Int).toNat : Nat)) : Int)), none]) dJ13_bitCount_95d88_33 ⟨Nat.le_of_ble_eq_true rfl, Nat.le_of_ble_eq_true rfl⟩ rfl ?_
  refine z_lload_n dJ13_bitCount_95d88_34 rfl ?_
  refine z_lload_n dJ13_bitCount_95d88_35 rfl ?_
  refine z_bipush dJ13_bitCount_95d88_36 (by decide) ?_
  refine n_lushr dJ13_bitCount_95d88_38 (by decide) h.2.2.2.2.2.2.2.2.2.2.1 ?_
  refine z_ladd dJ13_bitCount_95d88_39 h.2.2.2.2.2.2.2.2.2.2.2.1 ?_
  refine n_lstore_n (lo' := [some (1, (((((((((a - ((((a / 2 ^ (1 : Int).toNat : Int).toNat &&& (6148914691236517205 : Int).toNat : Nat)) : Int) : Int).toNat &&& (3689348814741910323 : Int).toNat : Nat)) : Int) + (((((a - ((((a / 2 ^ (1 : Int).toNat : Int).toNat &&& (6148914691236517205 : Int).toNat : Nat)) : Int)) / 2 ^ (2 : Int).toNat : Int).toNat &&& (3689348814741910323 : Int).toNat : Nat)) : Int)) + ((((((a - ((((a / 2 ^ (1 : Int).toNat : Int).toNat &&& (6148914691236517205 : Int).toNat : Nat)) : Int) : Int).toNat &&& (3689348814741910323 : Int).toNat : Nat)) : Int) + (((((a - ((((a / 2 ^ (1 : Int).toNat : Int).toNat &&& (6148914691236517205 : Int).toNat : Nat)) : Int)) / 2 ^ (2 : Int).toNat : Int).toNat &&& (3689348814741910323 : Int).toNat : Nat)) : Int)) / 2 ^ (4 : Int).toNat) : Int).toNat &&& (1085102592571150095 : Int).toNat : Nat)) : Int) + ((((((((((a - ((((a / 2 ^ (1 : Int).toNat : Int).toNat &&& (6148914691236517205 : Int).toNat : Nat)) : Int) : Int).toNat &&& (3689348814741910323 : Int).toNat : Nat)) : Int) + (((((a - ((((a / 2 ^ (1 : Int).toNat : Int).toNat &&& (6148914691236517205 : Int).toNat : Nat)) : Int)) / 2 ^ (2 : Int).toNat : Int).toNat &&& (3689348814741910323 : Int).toNat : Nat)) : Int)) + ((((((a - ((((a / 2 ^ (1 : Int).toNat : Int).toNat &&& (6148914691236517205 : Int).toNat : Nat)) : Int) : Int).toNat &&& (3689348814741910323 : Int).toNat : Nat)) : Int) + (((((a - ((((a / 2 ^ (1 : Int).toNat : Int).toNat &&& (6148914691236517205 : Int).toNat : Nat)) : Int)) / 2 ^ (2 : Int).toNat : Int).toNat &&& (3689348814741910323 : Int).toNat : Nat)) : Int)) / 2 ^ (4 : Int).toNat) : Int).toNat &&& (1085102592571150095 : Int).toNat : Nat)) : Int) / 2 ^ (8 : Int).toNat)), none]) dJ13_bitCount_95d88_40 ⟨Nat.le_of_ble_eq_true rfl, Nat.le_of_ble_eq_true rfl⟩ rfl ?_
  refine z_lload_n dJ13_bitCount_95d88_41 rfl ?_
  refine z_lload_n dJ13_bitCount_95d88_42 rfl ?_
  refine z_bipush dJ13_bitCount_95d88_43 (by decide) ?_
  refine n_lushr dJ13_bitCount_95d88_45 (by decide) h.2.2.2.2.2.2.2.2.2.2.2.2.1 ?_
  refine z_ladd dJ13_bitCount_95d88_46 h.2.2.2.2.2.2.2.2.2.2.2.2.2.1 ?_
  refine n_lstore_n (lo' := [some (1, ((((((((((a - ((((a / 2 ^ (1 : Int).toNat : Int).toNat &&& (6148914691236517205 : Int).toNat : Nat)) : Int) : Int).toNat &&& (3689348814741910323 : Int).toNat : Nat)) : Int) + (((((a - ((((a / 2 ^ (1 : Int).toNat : Int).toNat &&& (6148914691236517205 : Int).toNat : Nat)) : Int)) / 2 ^ (2 : Int).toNat : Int).toNat &&& (3689348814741910323 : Int).toNat : Nat)) : Int)) + ((((((a - ((((a / 2 ^ (1 : Int).toNat : Int).toNat &&& (6148914691236517205 : Int).toNat : Nat)) : Int) : Int).toNat &&& (3689348814741910323 : Int).toNat : Nat)) : Int) + (((((a - ((((a / 2 ^ (1 : Int).toNat : Int).toNat &&& (6148914691236517205 : Int).toNat : Nat)) : Int)) / 2 ^ (2 : Int).toNat : Int).toNat &&& (3689348814741910323 : Int).toNat : Nat)) : Int)) / 2 ^ (4 : Int).toNat) : Int).toNat &&& (1085102592571150095 : Int).toNat : Nat)) : Int) + ((((((((((a - ((((a / 2 ^ (1 : Int).toNat : Int).toNat &&& (6148914691236517205 : Int).toNat : Nat)) : Int) : Int).toNat &&& (3689348814741910323 : Int).toNat : Nat)) : Int) + (((((a - ((((a / 2 ^ (1 : Int).toNat : Int).toNat &&& (6148914691236517205 : Int).toNat : Nat)) : Int)) / 2 ^ (2 : Int).toNat : Int).toNat &&& (3689348814741910323 : Int).toNat : Nat)) : Int)) + ((((((a - ((((a / 2 ^ (1 : Int).toNat : Int).toNat &&& (6148914691236517205 : Int).toNat : Nat)) : Int) : Int).toNat &&& (3689348814741910323 : Int).toNat : Nat)) : Int) + (((((a - ((((a / 2 ^ (1 : Int).toNat : Int).toNat &&& (6148914691236517205 : Int).toNat : Nat)) : Int)) / 2 ^ (2 : Int).toNat : Int).toNat &&& (3689348814741910323 : Int).toNat : Nat)) : Int)) / 2 ^ (4 : Int).toNat) : Int).toNat &&& (1085102592571150095 : Int).toNat : Nat)) : Int) / 2 ^ (8 : Int).toNat)) + (((((((((((a - ((((a / 2 ^ (1 : Int).toNat : Int).toNat &&& (6148914691236517205 : Int).toNat : Nat)) : Int) : Int).toNat &&& (3689348814741910323 : Int).toNat : Nat)) : Int) + (((((a - ((((a / 2 ^ (1 : Int).toNat : Int).toNat &&& (6148914691236517205 : Int).toNat : Nat)) : Int)) / 2 ^ (2 : Int).toNat : Int).toNat &&& (3689348814741910323 : Int).toNat : Nat)) : Int)) + ((((((a - ((((a / 2 ^ (1 : Int).toNat : Int).toNat &&& (6148914691236517205 : Int).toNat : Nat)) : Int) : Int).toNat &&& (3689348814741910323 : Int).toNat : Nat)) : Int) + (((((a - ((((a / 2 ^ (1 : Int).toNat : Int).toNat &&& (6148914691236517205 : Int).toNat : Nat)) : Int)) / 2 ^ (2 : Int).toNat : Int).toNat &&& (3689348814741910323 : Int).toNat : Nat)) : Int)) / 2 ^ (4 : Int).toNat) : Int).toNat &&& (1085102592571150095 : Int).toNat : Nat)) : Int) + ((((((((((a - ((((a / 2 ^ (1 : Int).toNat : Int).toNat &&& (6148914691236517205 : Int).toNat : Nat)) : Int) : Int).toNat &&& (3689348814741910323 : Int).toNat : Nat)) : Int) + (((((a - ((((a / 2 ^ (1 : Int).toNat : Int).toNat &&& (6148914691236517205 : Int).toNat : Nat)) : Int)) / 2 ^ (2 : Int).toNat : Int).toNat &&& (3689348814741910323 : Int).toNat : Nat)) : Int)) + ((((((a - ((((a / 2 ^ (1 : Int).toNat : Int).toNat &&& (6148914691236517205 : Int).toNat : Nat)) : Int) : Int).toNat &&& (3689348814741910323 : Int).toNat : Nat)) : Int) + (((((a - ((((a / 2 ^ (1 : Int).toNat : Int).toNat &&& (6148914691236517205 : Int).toNat : Nat)) : Int)) / 2 ^ (2 : Int).toNat : Int).toNat &&& (3689348814741910323 : Int).toNat : Nat)) : Int)) / 2 ^ (4 : Int).toNat) : Int).toNat &&& (1085102592571150095 : Int).toNat : Nat)) : Int) / 2 ^ (8 : Int).toNat)) / 2 ^ (16 : Int).toNat)), none]) dJ13_bitCount_95d88_47 ⟨Nat.le_of_ble_eq_true rfl, Nat.le_of_ble_eq_true rfl⟩ rfl ?_
  refine z_lload_n dJ13_bitCount_95d88_48 rfl ?_
  refine z_lload_n dJ13_bitCount_95d88_49 rfl ?_
  refine z_bipush dJ13_bitCount_95d88_50 (by decide) ?_
  refine n_lushr dJ13_bitCount_95d88_52 (by decide) h.2.2.2.2.2.2.2.2.2.2.2.2.2.2.1 ?_
  refine z_ladd dJ13_bitCount_95d88_53 h.2.2.2.2.2.2.2.2.2.2.2.2.2.2.2.1 ?_
  refine n_lstore_n (lo' := [some (1, (((((((((((a - ((((a / 2 ^ (1 : Int).toNat : Int).toNat &&& (6148914691236517205 : Int).toNat : Nat)) : Int) : Int).toNat &&& (3689348814741910323 : Int).toNat : Nat)) : Int) + (((((a - ((((a / 2 ^ (1 : Int).toNat : Int).toNat &&& (6148914691236517205 : Int).toNat : Nat)) : Int)) / 2 ^ (2 : Int).toNat : Int).toNat &&& (3689348814741910323 : Int).toNat : Nat)) : Int)) + ((((((a - ((((a / 2 ^ (1 : Int).toNat : Int).toNat &&& (6148914691236517205 : Int).toNat : Nat)) : Int) : Int).toNat &&& (3689348814741910323 : Int).toNat : Nat)) : Int) + (((((a - ((((a / 2 ^ (1 : Int).toNat : Int).toNat &&& (6148914691236517205 : Int).toNat : Nat)) : Int)) / 2 ^ (2 : Int).toNat : Int).toNat &&& (3689348814741910323 : Int).toNat : Nat)) : Int)) / 2 ^ (4 : Int).toNat) : Int).toNat &&& (1085102592571150095 : Int).toNat : Nat)) : Int) + ((((((((((a - ((((a / 2 ^ (1 : Int).toNat : Int).toNat &&& (6148914691236517205 : Int).toNat : Nat)) : Int) : Int).toNat &&& (3689348814741910323 : Int).toNat : Nat)) : Int) + (((((a - ((((a / 2 ^ (1 : Int).toNat : Int).toNat &&& (6148914691236517205 : Int).toNat : Nat)) : Int)) / 2 ^ (2 : Int).toNat : Int).toNat &&& (3689348814741910323 : Int).toNat : Nat)) : Int)) + ((((((a - ((((a / 2 ^ (1 : Int).toNat : Int).toNat &&& (6148914691236517205 : Int).toNat : Nat)) : Int) : Int).toNat &&& (3689348814741910323 : Int).toNat : Nat)) : Int) + (((((a - ((((a / 2 ^ (1 : Int).toNat : Int).toNat &&& (6148914691236517205 : Int).toNat : Nat)) : Int)) / 2 ^ (2 : Int).toNat : Int).toNat &&& (3689348814741910323 : Int).toNat : Nat)) : Int)) / 2 ^ (4 : Int).toNat) : Int).toNat &&& (1085102592571150095 : Int).toNat : Nat)) : Int) / 2 ^ (8 : Int).toNat)) + (((((((((((a - ((((a / 2 ^ (1 : Int).toNat : Int).toNat &&& (6148914691236517205 : Int).toNat : Nat)) : Int) : Int).toNat &&& (3689348814741910323 : Int).toNat : Nat)) : Int) + (((((a - ((((a / 2 ^ (1 : Int).toNat : Int).toNat &&& (6148914691236517205 : Int).toNat : Nat)) : Int)) / 2 ^ (2 : Int).toNat : Int).toNat &&& (3689348814741910323 : Int).toNat : Nat)) : Int)) + ((((((a - ((((a / 2 ^ (1 : Int).toNat : Int).toNat &&& (6148914691236517205 : Int).toNat : Nat)) : Int) : Int).toNat &&& (3689348814741910323 : Int).toNat : Nat)) : Int) + (((((a - ((((a / 2 ^ (1 : Int).toNat : Int).toNat &&& (6148914691236517205 : Int).toNat : Nat)) : Int)) / 2 ^ (2 : Int).toNat : Int).toNat &&& (3689348814741910323 : Int).toNat : Nat)) : Int)) / 2 ^ (4 : Int).toNat) : Int).toNat &&& (1085102592571150095 : Int).toNat : Nat)) : Int) + ((((((((((a - ((((a / 2 ^ (1 : Int).toNat : Int).toNat &&& (6148914691236517205 : Int).toNat : Nat)) : Int) : Int).toNat &&& (3689348814741910323 : Int).toNat : Nat)) : Int) + (((((a - ((((a / 2 ^ (1 : Int).toNat : Int).toNat &&& (6148914691236517205 : Int).toNat : Nat)) : Int)) / 2 ^ (2 : Int).toNat : Int).toNat &&& (3689348814741910323 : Int).toNat : Nat)) : Int)) + ((((((a - ((((a / 2 ^ (1 : Int).toNat : Int).toNat &&& (6148914691236517205 : Int).toNat : Nat)) : Int) : Int).toNat &&& (3689348814741910323 : Int).toNat : Nat)) : Int) + (((((a - ((((a / 2 ^ (1 : Int).toNat : Int).toNat &&& (6148914691236517205 : Int).toNat : Nat)) : Int)) / 2 ^ (2 : Int).toNat : Int).toNat &&& (3689348814741910323 : Int).toNat : Nat)) : Int)) / 2 ^ (4 : Int).toNat) : Int).toNat &&& (1085102592571150095 : Int).toNat : Nat)) : Int) / 2 ^ (8 : Int).toNat)) / 2 ^ (16 : Int).toNat)) + ((((((((((((a - ((((a / 2 ^ (1 : Int).toNat : Int).toNat &&& (6148914691236517205 : Int).toNat : Nat)) : Int) : Int).toNat &&& (3689348814741910323 : Int).toNat : Nat)) : Int) + (((((a - ((((a / 2 ^ (1 : Int).toNat : Int).toNat &&& (6148914691236517205 : Int).toNat : Nat)) : Int)) / 2 ^ (2 : Int).toNat : Int).toNat &&& (3689348814741910323 : Int).toNat : Nat)) : Int)) + ((((((a - ((((a / 2 ^ (1 : Int).toNat : Int).toNat &&& (6148914691236517205 : Int).toNat : Nat)) : Int) : Int).toNat &&& (3689348814741910323 : Int).toNat : Nat)) : Int) + (((((a - ((((a / 2 ^ (1 : Int).toNat : Int).toNat &&& (6148914691236517205 : Int).toNat : Nat)) : Int)) / 2 ^ (2 : Int).toNat : Int).toNat &&& (3689348814741910323 : Int).toNat : Nat)) : Int)) / 2 ^ (4 : Int).toNat) : Int).toNat &&& (1085102592571150095 : Int).toNat : Nat)) : Int) + ((((((((((a - ((((a / 2 ^ (1 : Int).toNat : Int).toNat &&& (6148914691236517205 : Int).toNat : Nat)) : Int) : Int).toNat &&& (3689348814741910323 : Int).toNat : Nat)) : Int) + (((((a - ((((a / 2 ^ (1 : Int).toNat : Int).toNat &&& (6148914691236517205 : Int).toNat : Nat)) : Int)) / 2 ^ (2 : Int).toNat : Int).toNat &&& (3689348814741910323 : Int).toNat : Nat)) : Int)) + ((((((a - ((((a / 2 ^ (1 : Int).toNat : Int).toNat &&& (6148914691236517205 : Int).toNat : Nat)) : Int) : Int).toNat &&& (3689348814741910323 : Int).toNat : Nat)) : Int) + (((((a - ((((a / 2 ^ (1 : Int).toNat : Int).toNat &&& (6148914691236517205 : Int).toNat : Nat)) : Int)) / 2 ^ (2 : Int).toNat : Int).toNat &&& (3689348814741910323 : Int).toNat : Nat)) : Int)) / 2 ^ (4 : Int).toNat) : Int).toNat &&& (1085102592571150095 : Int).toNat : Nat)) : Int) / 2 ^ (8 : Int).toNat)) + (((((((((((a - ((((a / 2 ^ (1 : Int).toNat : Int).toNat &&& (6148914691236517205 : Int).toNat : Nat)) : Int) : Int).toNat &&& (3689348814741910323 : Int).toNat : Nat)) : Int) + (((((a - ((((a / 2 ^ (1 : Int).toNat : Int).toNat &&& (6148914691236517205 : Int).toNat : Nat)) : Int)) / 2 ^ (2 : Int).toNat : Int).toNat &&& (3689348814741910323 : Int).toNat : Nat)) : Int)) + ((((((a - ((((a / 2 ^ (1 : Int).toNat : Int).toNat &&& (6148914691236517205 : Int).toNat : Nat)) : Int) : Int).toNat &&& (3689348814741910323 : Int).toNat : Nat)) : Int) + (((((a - ((((a / 2 ^ (1 : Int).toNat : Int).toNat &&& (6148914691236517205 : Int).toNat : Nat)) : Int)) / 2 ^ (2 : Int).toNat : Int).toNat &&& (3689348814741910323 : Int).toNat : Nat)) : Int)) / 2 ^ (4 : Int).toNat) : Int).toNat &&& (1085102592571150095 : Int).toNat : Nat)) : Int) + ((((((((((a - ((((a / 2 ^ (1 : Int).toNat : Int).toNat &&& (6148914691236517205 : Int).toNat : Nat)) : Int) : Int).toNat &&& (3689348814741910323 : Int).toNat : Nat)) : Int) + (((((a - ((((a / 2 ^ (1 : Int).toNat : Int).toNat &&& (6148914691236517205 : Int).toNat : Nat)) : Int)) / 2 ^ (2 : Int).toNat : Int).toNat &&& (3689348814741910323 : Int).toNat : Nat)) : Int)) + ((((((a - ((((a / 2 ^ (1 : Int).toNat : Int).toNat &&& (6148914691236517205 : Int).toNat : Nat)) : Int) : Int).toNat &&& (3689348814741910323 : Int).toNat : Nat)) : Int) + (((((a - ((((a / 2 ^ (1 : Int).toNat : Int).toNat &&& (6148914691236517205 : Int).toNat : Nat)) : Int)) / 2 ^ (2 : Int).toNat : Int).toNat &&& (3689348814741910323 : Int).toNat : Nat)) : Int)) / 2 ^ (4 : Int).toNat) : Int).toNat &&& (1085102592571150095 : Int).toNat : Nat)) : Int) / 2 ^ (8 : Int).toNat)) / 2 ^ (16 : Int).toNat)) / 2 ^ (32 : Int).toNat)), none]) dJ13_bitCount_95d88_54 ⟨Nat.le_of_ble_eq_true rfl, Nat.le_of_ble_eq_true rfl⟩ rfl ?_
  refine z_lload_n dJ13_bitCount_95d88_55 rfl ?_
  refine z_l2i_ dJ13_bitCount_95d88_56 ?_
  refine z_bipush dJ13_bitCount_95d88_57 (by decide) ?_
  refine n_iandm (k := 7) (m := 128) dJ13_bitCount_95d88_59 (by decide) (by decide) ?_
  exact z_ireturn dJ13_bitCount_95d88_60 rfl rfl ⟨_, rfl, h.2.2.2.2.2.2.2.2.2.2.2.2.2.2.2.2⟩

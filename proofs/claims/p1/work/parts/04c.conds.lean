set_option maxRecDepth 20000 in
theorem V_X11_feed {a b c e f : Int}  {μ : z_Mem} {d : Nat} {K : Int → z_Mem → Prop} (h : z_I ((μ 1 1) + 20) ∧ (((μ 1 1) + 20 ≤ 200 → z_cn m_X11_putFour [(2, 1), (0, a)] μ d (fun m3 => z_cn m_X11_putFour [(2, 1), (0, b)] m3 d (fun m5 => z_cn m_X11_putFour [(2, 1), (0, c)] m5 d (fun m7 => z_cn m_X11_putFour [(2, 1), (0, e)] m7 d (fun m9 => z_cn m_X11_putFour [(2, 1), (0, f)] m9 d (fun m11 => K (m11 1 1) m11)))))) ∧ (200 < (μ 1 1) + 20 → K (-1) μ))) : z_ci m_X11_feed [(2, 1), (0, a), (0, b), (0, c), (0, e), (0, f)] μ (d + 1) K := by
  show z_R m_X11_feed 0 [some (2, 1), some (0, a), some (0, b), some (0, c), some (0, e), some (0, f)] [] z_n μ (d + 1) _
  refine z_aload_n dX11_feed_0 rfl ?_
  refine n_getf (ji := 1) (t := 0) dX11_feed_1 zf_X11_13 k_1 rfl (by decide) rfl ?_
  refine z_bipush dX11_feed_4 (by decide) ?_
  refine z_iadd dX11_feed_6 h.1 ?_
  refine z_sipush dX11_feed_7 (by decide) ?_
  refine z_icmp_le (tgt := 15) dX11_feed_10 (by decide) (fun q1 => ?_) (fun q2 => ?_)
  · refine z_aload_n dX11_feed_15 rfl ?_
    refine z_iload_n dX11_feed_16 rfl ?_
    refine n_vN (as := [(0, a)]) (rest := []) dX11_feed_17 zm_X11_putFour zs_X11_96 k_1 (by decide) rfl rfl (Nat.le_of_ble_eq_true rfl) (Nat.le_of_ble_eq_true rfl) (h.2.1 q1) (fun m3 h4 => ?_)
    refine z_aload_n dX11_feed_20 rfl ?_
    refine z_iload_n dX11_feed_21 rfl ?_
    refine n_vN (as := [(0, b)]) (rest := []) dX11_feed_22 zm_X11_putFour zs_X11_96 k_1 (by decide) rfl rfl (Nat.le_of_ble_eq_true rfl) (Nat.le_of_ble_eq_true rfl) h4 (fun m5 h6 => ?_)
    refine z_aload_n dX11_feed_25 rfl ?_
    refine z_iload_n dX11_feed_26 rfl ?_
    refine n_vN (as := [(0, c)]) (rest := []) dX11_feed_27 zm_X11_putFour zs_X11_96 k_1 (by decide) rfl rfl (Nat.le_of_ble_eq_true rfl) (Nat.le_of_ble_eq_true rfl) h6 (fun m7 h8 => ?_)
    refine z_aload_n dX11_feed_30 rfl ?_
    refine z_iload dX11_feed_31 rfl ?_
    refine n_vN (as := [(0, e)]) (rest := []) dX11_feed_33 zm_X11_putFour zs_X11_96 k_1 (by decide) rfl rfl (Nat.le_of_ble_eq_true rfl) (Nat.le_of_ble_eq_true rfl) h8 (fun m9 h10 => ?_)
    refine z_aload_n dX11_feed_36 rfl ?_
    refine z_iload dX11_feed_37 rfl ?_
    refine n_vN (as := [(0, f)]) (rest := []) dX11_feed_39 zm_X11_putFour zs_X11_96 k_1 (by decide) rfl rfl (Nat.le_of_ble_eq_true rfl) (Nat.le_of_ble_eq_true rfl) h10 (fun m11 h12 => ?_)
    refine z_aload_n dX11_feed_42 rfl ?_
    refine n_getf (ji := 1) (t := 0) dX11_feed_43 zf_X11_13 k_1 rfl (by decide) rfl ?_
    exact z_ireturn dX11_feed_46 rfl rfl ⟨_, rfl, h12⟩
  · refine z_iconst dX11_feed_13 ⟨by decide, by decide⟩ ?_
    exact z_ireturn dX11_feed_14 rfl rfl ⟨_, rfl, (h.2.2 q2)⟩
set_option maxRecDepth 20000 in
theorem V_X11_putFour {a : Int}  {μ : z_Mem} {d : Nat} {K : z_Mem → Prop} (h : z_rn m_X11_putFour 3 [some (2, 1), some (0, a), some (0, 24)] μ d K) : z_cn m_X11_putFour [(2, 1), (0, a)] μ d K := by
  show z_R m_X11_putFour 0 [some (2, 1), some (0, a), none] [] z_n μ d _
  refine z_bipush dX11_putFour_0 (by decide) ?_
  refine n_istore_n (lo' := [some (2, 1), some (0, a), some (0, 24)]) dX11_putFour_2 ⟨Nat.le_of_ble_eq_true rfl, Nat.le_of_ble_eq_true rfl⟩ rfl ?_
  refine z_drop [some (2, 1), some (0, a), some (0, 24)] ⟨rfl, rfl, rfl, trivial⟩ ?_
  exact h
set_option maxRecDepth 20000 in
theorem V_X11_putFour_3 {v1 v2 : Int}  {μ : z_Mem} {d : Nat} {K : z_Mem → Prop} (h : (v2 < 0 → K μ) ∧ (0 ≤ v2 → (200 ≤ μ 1 1 → z_I (v2 + (-8)) ∧ (z_rn m_X11_putFour 3 [some (2, 1), some (0, v1), some (0, v2 + (-8))] μ d K)) ∧ (μ 1 1 < 200 → ((0 : Int) ≤ v2 ∧ v2 < 32) ∧ (((0 : Int) ≤ μ 1 1 ∧ μ 1 1 < 200) ∧ (z_I (((z_st μ 2 (μ 1 1) ((Int.bmod (v1 % 4294967296 / 2 ^ (v2 : Int).toNat) 4294967296) % 256)) 1 1) + 1) ∧ (z_I (v2 + (-8)) ∧ (z_rn m_X11_putFour 3 [some (2, 1), some (0, v1), some (0, v2 + (-8))] (z_st (z_st μ 2 (μ 1 1) ((Int.bmod (v1 % 4294967296 / 2 ^ (v2 : Int).toNat) 4294967296) % 256)) 1 1 (((z_st μ 2 (μ 1 1) ((Int.bmod (v1 % 4294967296 / 2 ^ (v2 : Int).toNat) 4294967296) % 256)) 1 1) + 1)) d K))))))) : z_rn m_X11_putFour 3 [some (2, 1), some (0, v1), some (0, v2)] μ d K := by
  show z_R m_X11_putFour 3 [some (2, 1), some (0, v1), some (0, v2)] [] z_n μ d _
  refine z_iload_n dX11_putFour_3 rfl ?_
  refine z_if_lt (tgt := 49) dX11_putFour_4 (by decide) (fun q1 => ?_) (fun q2 => ?_)
  · exact z_return dX11_putFour_49 rfl rfl ⟨rfl, (h.1 q1)⟩
  · refine z_aload_n dX11_putFour_7 rfl ?_
    refine n_getf (ji := 1) (t := 0) dX11_putFour_8 zf_X11_13 k_1 rfl (by decide) rfl ?_
    refine z_sipush dX11_putFour_11 (by decide) ?_
    refine z_icmp_ge (tgt := 43) dX11_putFour_14 (by decide) (fun q3 => ?_) (fun q4 => ?_)
    · refine n_iinc (lo' := [some (2, 1), some (0, v1), some (0, v2 + (-8))]) dX11_putFour_43 rfl (by decide) ((h.2 q2).1 q3).1 rfl ?_
      refine z_goto (tgt := 3) dX11_putFour_46 (by decide) ?_
      refine z_drop [some (2, 1), some (0, v1), some (0, v2 + (-8))] ⟨rfl, rfl, rfl, trivial⟩ ?_
      exact ((h.2 q2).1 q3).2
    · refine z_aload_n dX11_putFour_17 rfl ?_
      refine n_getp (ji := 0) dX11_putFour_18 zf_X11_9 k_1 rfl (by decide) rfl p_1_0 ?_
      refine z_aload_n dX11_putFour_21 rfl ?_
      refine n_getf (ji := 1) (t := 0) dX11_putFour_22 zf_X11_13 k_1 rfl (by decide) rfl ?_
      refine z_iload_n dX11_putFour_25 rfl ?_
      refine z_iload_n dX11_putFour_26 rfl ?_
      refine n_iushrh dX11_putFour_27 ((h.2 q2).2 q4).1 ?_
      refine z_sipush dX11_putFour_28 (by decide) ?_
      refine n_iandm (k := 8) (m := 256) dX11_putFour_31 (by decide) (by decide) ?_
      refine n_iast dX11_putFour_32 k_2 ((h.2 q2).2 q4).2.1 ?_
      refine z_aload_n dX11_putFour_33 rfl ?_
      refine z_dup dX11_putFour_34 rfl ?_
      refine n_getf (ji := 1) (t := 0) dX11_putFour_35 zf_X11_13 k_1 rfl (by decide) rfl ?_
      refine z_iconst dX11_putFour_38 ⟨by decide, by decide⟩ ?_
      refine z_iadd dX11_putFour_39 ((h.2 q2).2 q4).2.2.1 ?_
      refine n_putI (ji := 1) dX11_putFour_40 zf_X11_13 k_1 rfl (by decide) rfl ?_
      refine n_iinc (lo' := [some (2, 1), some (0, v1), some (0, v2 + (-8))]) dX11_putFour_43 rfl (by decide) ((h.2 q2).2 q4).2.2.2.1 rfl ?_
      refine z_goto (tgt := 3) dX11_putFour_46 (by decide) ?_
      refine z_drop [some (2, 1), some (0, v1), some (0, v2 + (-8))] ⟨rfl, rfl, rfl, trivial⟩ ?_
      exact ((h.2 q2).2 q4).2.2.2.2
set_option maxRecDepth 20000 in
theorem V_X11_end {a : Int}  {μ : z_Mem} {d : Nat} {K : Int → z_Mem → Prop} (h : (a < 0 → K (-1) μ) ∧ (0 ≤ a → (a ≤ μ 1 1 → K a (z_st μ 1 1 a)) ∧ (μ 1 1 < a → K (-1) μ))) : z_ci m_X11_end [(2, 1), (0, a)] μ d K := by
  show z_R m_X11_end 0 [some (2, 1), some (0, a)] [] z_n μ d _
  refine z_iload_n dX11_end_0 rfl ?_
  refine z_if_lt (tgt := 12) dX11_end_1 (by decide) (fun q1 => ?_) (fun q2 => ?_)
  · refine z_iconst dX11_end_12 ⟨by decide, by decide⟩ ?_
    exact z_ireturn dX11_end_13 rfl rfl ⟨_, rfl, (h.1 q1)⟩
  · refine z_iload_n dX11_end_4 rfl ?_
    refine z_aload_n dX11_end_5 rfl ?_
    refine n_getf (ji := 1) (t := 0) dX11_end_6 zf_X11_13 k_1 rfl (by decide) rfl ?_
    refine z_icmp_le (tgt := 14) dX11_end_9 (by decide) (fun q3 => ?_) (fun q4 => ?_)
    · refine z_aload_n dX11_end_14 rfl ?_
      refine z_iload_n dX11_end_15 rfl ?_
      refine n_putI (ji := 1) dX11_end_16 zf_X11_13 k_1 rfl (by decide) rfl ?_
      refine z_iload_n dX11_end_19 rfl ?_
      exact z_ireturn dX11_end_20 rfl rfl ⟨_, rfl, ((h.2 q2).1 q3)⟩
    · refine z_iconst dX11_end_12 ⟨by decide, by decide⟩ ?_
      exact z_ireturn dX11_end_13 rfl rfl ⟨_, rfl, ((h.2 q2).2 q4)⟩
set_option maxRecDepth 20000 in
theorem V_X11_solid  {μ : z_Mem} {d : Nat} {K : Int → z_Mem → Prop} (h : z_ci m_X4_read [(2, 3), (2, 2), (0, μ 1 1)] μ d (fun x3 m1 => (x3 = (-1) → z_cn m_X9_make [(2, 6), (2, 4), (0, (z_st m1 1 1 0) 3 1)] (z_st m1 1 1 0) d (fun m6 => z_cn m_X3_begin [(2, 21)] m6 d (fun m8 => z_cn m_X2_forget [(2, 80)] m8 d (fun m10 => z_cn m_X11_settle [(2, 1)] m10 d (fun m12 => K (m12 6 2) m12))))) ∧ (¬ x3 = (-1) → z_I ((-2) - x3) ∧ (K ((-2) - x3) (z_st m1 1 1 0))))) : z_ci m_X11_solid [(2, 1)] μ (d + 1) K := by
  show z_R m_X11_solid 0 [some (2, 1), none] [] z_n μ (d + 1) _
  refine z_aload_n dX11_solid_0 rfl ?_
  refine n_getp (ji := 2) dX11_solid_1 zf_X11_20 k_1 rfl (by decide) rfl p_1_2 ?_
  refine z_aload_n dX11_solid_4 rfl ?_
  refine n_getp (ji := 0) dX11_solid_5 zf_X11_9 k_1 rfl (by decide) rfl p_1_0 ?_
  refine z_aload_n dX11_solid_8 rfl ?_
  refine n_getf (ji := 1) (t := 0) dX11_solid_9 zf_X11_13 k_1 rfl (by decide) rfl ?_
  refine n_vI (as := [(2, 2), (0, μ 1 1)]) (rest := []) dX11_solid_12 zm_X4_read zs_X11_100 k_3 (by decide) rfl rfl (Nat.le_of_ble_eq_true rfl) (Nat.le_of_ble_eq_true rfl) h (fun x3 m1 h2 => ?_)
  refine n_istore_n (lo' := [some (2, 1), some (0, x3)]) dX11_solid_15 ⟨Nat.le_of_ble_eq_true rfl, Nat.le_of_ble_eq_true rfl⟩ rfl ?_
  refine z_aload_n dX11_solid_16 rfl ?_
  refine z_iconst dX11_solid_17 ⟨by decide, by decide⟩ ?_
  refine n_putI (ji := 1) dX11_solid_18 zf_X11_13 k_1 rfl (by decide) rfl ?_
  refine z_iload_n dX11_solid_21 rfl ?_
  refine z_iconst dX11_solid_22 ⟨by decide, by decide⟩ ?_
  refine z_icmp_eq (tgt := 31) dX11_solid_23 (by decide) (fun q4 => ?_) (fun q5 => ?_)
  · refine z_aload_n dX11_solid_31 rfl ?_
    refine n_getp (ji := 3) dX11_solid_32 zf_X11_27 k_1 rfl (by decide) rfl p_1_3 ?_
    refine z_aload_n dX11_solid_35 rfl ?_
    refine n_getp (ji := 2) dX11_solid_36 zf_X11_20 k_1 rfl (by decide) rfl p_1_2 ?_
    refine n_getp (ji := 0) dX11_solid_39 zf_X11_104 k_3 rfl (by decide) rfl p_3_0 ?_
    refine z_aload_n dX11_solid_42 rfl ?_
    refine n_getp (ji := 2) dX11_solid_43 zf_X11_20 k_1 rfl (by decide) rfl p_1_2 ?_
    refine n_getf (ji := 1) (t := 0) dX11_solid_46 zf_X11_107 k_3 rfl (by decide) rfl ?_
    refine n_vN (as := [(2, 4), (0, (z_st m1 1 1 0) 3 1)]) (rest := []) dX11_solid_49 zm_X9_make zs_X11_110 k_6 (by decide) rfl rfl (Nat.le_of_ble_eq_true rfl) (Nat.le_of_ble_eq_true rfl) (h2.1 q4) (fun m6 h7 => ?_)
    refine z_aload_n dX11_solid_52 rfl ?_
    refine n_getp (ji := 4) dX11_solid_53 zf_X11_34 k_1 rfl (by decide) rfl p_1_4 ?_
    refine n_vN (as := []) (rest := []) dX11_solid_56 zm_X3_begin zs_X11_114 k_21 (by decide) rfl rfl (Nat.le_of_ble_eq_true rfl) (Nat.le_of_ble_eq_true rfl) h7 (fun m8 h9 => ?_)
    refine z_aload_n dX11_solid_59 rfl ?_
    refine n_getp (ji := 11) dX11_solid_60 zf_X11_85 k_1 rfl (by decide) rfl p_1_11 ?_
    refine n_vN (as := []) (rest := []) dX11_solid_63 zm_X2_forget zs_X11_117 k_80 (by decide) rfl rfl (Nat.le_of_ble_eq_true rfl) (Nat.le_of_ble_eq_true rfl) h9 (fun m10 h11 => ?_)
    refine z_aload_n dX11_solid_66 rfl ?_
    refine n_vN (as := []) (rest := []) dX11_solid_67 zm_X11_settle zs_X11_120 k_1 (by decide) rfl rfl (Nat.le_of_ble_eq_true rfl) (Nat.le_of_ble_eq_true rfl) h11 (fun m12 h13 => ?_)
    refine z_aload_n dX11_solid_70 rfl ?_
    refine n_getp (ji := 3) dX11_solid_71 zf_X11_27 k_1 rfl (by decide) rfl p_1_3 ?_
    refine n_getf (ji := 2) (t := 0) dX11_solid_74 zf_X11_123 k_6 rfl (by decide) rfl ?_
    exact z_ireturn dX11_solid_77 rfl rfl ⟨_, rfl, h13⟩
  · refine z_bipush dX11_solid_26 (by decide) ?_
    refine z_iload_n dX11_solid_28 rfl ?_
    refine z_isub dX11_solid_29 (h2.2 q5).1 ?_
    exact z_ireturn dX11_solid_30 rfl rfl ⟨_, rfl, (h2.2 q5).2⟩
set_option maxRecDepth 20000 in
theorem V_X11_hinge {a : Int}  {μ : z_Mem} {d : Nat} {K : Int → z_Mem → Prop} (h : z_ci m_X11_isEdge [(2, 1), (0, a)] μ d (fun x3 m1 => (¬ x3 = 0 → z_ci m_X3_isHinge [(2, 21), (0, a)] m1 d (fun x8 m6 => (x8 = 0 → z_ci m_X9_faceOf [(2, 6), (0, a), (0, 0)] m6 d (fun x13 m11 => z_ci m_X9_faceOf [(2, 6), (0, a), (0, 1)] m11 d (fun x16 m14 => z_ci m_X9_isJoined [(2, 6), (0, x13), (0, x16), (1, m14 21 0)] m14 d (fun x19 m17 => (x19 = 0 → z_cn m_X2_remember [(2, 80), (2, 21)] m17 d (fun m22 => z_cn m_X3_setHinge [(2, 21), (0, a)] m22 d (fun m24 => z_cn m_X11_settle [(2, 1)] m24 d (fun m26 => z_ci m_X3_howMany [(2, 21)] m26 d (fun x30 m28 => K x30 m28))))) ∧ (¬ x19 = 0 → K (-3) m17))))) ∧ (¬ x8 = 0 → K (-2) m6))) ∧ (x3 = 0 → K (-1) m1))) : z_ci m_X11_hinge [(2, 1), (0, a)] μ (d + 1) K := by
  show z_R m_X11_hinge 0 [some (2, 1), some (0, a)] [] z_n μ (d + 1) _
  refine z_aload_n dX11_hinge_0 rfl ?_
  refine z_iload_n dX11_hinge_1 rfl ?_
  refine n_vI (as := [(0, a)]) (rest := []) dX11_hinge_2 zm_X11_isEdge zs_X11_126 k_1 (by decide) rfl rfl (Nat.le_of_ble_eq_true rfl) (Nat.le_of_ble_eq_true rfl) h (fun x3 m1 h2 => ?_)
  refine z_if_ne (tgt := 10) dX11_hinge_5 (by decide) (fun q4 => ?_) (fun q5 => ?_)
  · refine z_aload_n dX11_hinge_10 rfl ?_
    refine n_getp (ji := 4) dX11_hinge_11 zf_X11_34 k_1 rfl (by decide) rfl p_1_4 ?_
    refine z_iload_n dX11_hinge_14 rfl ?_
    refine n_vI (as := [(0, a)]) (rest := []) dX11_hinge_15 zm_X3_isHinge zs_X11_130 k_21 (by decide) rfl rfl (Nat.le_of_ble_eq_true rfl) (Nat.le_of_ble_eq_true rfl) (h2.1 q4) (fun x8 m6 h7 => ?_)
    refine z_if_eq (tgt := 24) dX11_hinge_18 (by decide) (fun q9 => ?_) (fun q10 => ?_)
    · refine z_aload_n dX11_hinge_24 rfl ?_
      refine n_getp (ji := 3) dX11_hinge_25 zf_X11_27 k_1 rfl (by decide) rfl p_1_3 ?_
      refine z_aload_n dX11_hinge_28 rfl ?_
      refine n_getp (ji := 3) dX11_hinge_29 zf_X11_27 k_1 rfl (by decide) rfl p_1_3 ?_
      refine z_iload_n dX11_hinge_32 rfl ?_
      refine z_iconst dX11_hinge_33 ⟨by decide, by decide⟩ ?_
      refine n_vI (as := [(0, a), (0, 0)]) (rest := [(2, 6)]) dX11_hinge_34 zm_X9_faceOf zs_X11_133 k_6 (by decide) rfl rfl (Nat.le_of_ble_eq_true rfl) (Nat.le_of_ble_eq_true rfl) (h7.1 q9) (fun x13 m11 h12 => ?_)
      refine z_aload_n dX11_hinge_37 rfl ?_
      refine n_getp (ji := 3) dX11_hinge_38 zf_X11_27 k_1 rfl (by decide) rfl p_1_3 ?_
      refine z_iload_n dX11_hinge_41 rfl ?_
      refine z_iconst dX11_hinge_42 ⟨by decide, by decide⟩ ?_
      refine n_vI (as := [(0, a), (0, 1)]) (rest := [(0, x13), (2, 6)]) dX11_hinge_43 zm_X9_faceOf zs_X11_133 k_6 (by decide) rfl rfl (Nat.le_of_ble_eq_true rfl) (Nat.le_of_ble_eq_true rfl) h12 (fun x16 m14 h15 => ?_)
      refine z_aload_n dX11_hinge_46 rfl ?_
      refine n_getp (ji := 4) dX11_hinge_47 zf_X11_34 k_1 rfl (by decide) rfl p_1_4 ?_
      refine n_getf (ji := 0) (t := 1) dX11_hinge_50 zf_X11_137 k_21 rfl (by decide) rfl ?_
      refine n_vI (as := [(0, x13), (0, x16), (1, m14 21 0)]) (rest := []) dX11_hinge_53 zm_X9_isJoined zs_X11_141 k_6 (by decide) rfl rfl (Nat.le_of_ble_eq_true rfl) (Nat.le_of_ble_eq_true rfl) h15 (fun x19 m17 h18 => ?_)
      refine z_if_eq (tgt := 62) dX11_hinge_56 (by decide) (fun q20 => ?_) (fun q21 => ?_)
      · refine z_aload_n dX11_hinge_62 rfl ?_
        refine n_getp (ji := 11) dX11_hinge_63 zf_X11_85 k_1 rfl (by decide) rfl p_1_11 ?_
        refine z_aload_n dX11_hinge_66 rfl ?_
        refine n_getp (ji := 4) dX11_hinge_67 zf_X11_34 k_1 rfl (by decide) rfl p_1_4 ?_
        refine n_vN (as := [(2, 21)]) (rest := []) dX11_hinge_70 zm_X2_remember zs_X11_145 k_80 (by decide) rfl rfl (Nat.le_of_ble_eq_true rfl) (Nat.le_of_ble_eq_true rfl) (h18.1 q20) (fun m22 h23 => ?_)
        refine z_aload_n dX11_hinge_73 rfl ?_
        refine n_getp (ji := 4) dX11_hinge_74 zf_X11_34 k_1 rfl (by decide) rfl p_1_4 ?_
        refine z_iload_n dX11_hinge_77 rfl ?_
        refine n_vN (as := [(0, a)]) (rest := []) dX11_hinge_78 zm_X3_setHinge zs_X11_149 k_21 (by decide) rfl rfl (Nat.le_of_ble_eq_true rfl) (Nat.le_of_ble_eq_true rfl) h23 (fun m24 h25 => ?_)
        refine z_aload_n dX11_hinge_81 rfl ?_
        refine n_vN (as := []) (rest := []) dX11_hinge_82 zm_X11_settle zs_X11_120 k_1 (by decide) rfl rfl (Nat.le_of_ble_eq_true rfl) (Nat.le_of_ble_eq_true rfl) h25 (fun m26 h27 => ?_)
        refine z_aload_n dX11_hinge_85 rfl ?_
        refine n_getp (ji := 4) dX11_hinge_86 zf_X11_34 k_1 rfl (by decide) rfl p_1_4 ?_
        refine n_vI (as := []) (rest := []) dX11_hinge_89 zm_X3_howMany zs_X11_152 k_21 (by decide) rfl rfl (Nat.le_of_ble_eq_true rfl) (Nat.le_of_ble_eq_true rfl) h27 (fun x30 m28 h29 => ?_)
        exact z_ireturn dX11_hinge_92 rfl rfl ⟨_, rfl, h29⟩
      · refine z_bipush dX11_hinge_59 (by decide) ?_
        exact z_ireturn dX11_hinge_61 rfl rfl ⟨_, rfl, (h18.2 q21)⟩
    · refine z_bipush dX11_hinge_21 (by decide) ?_
      exact z_ireturn dX11_hinge_23 rfl rfl ⟨_, rfl, (h7.2 q10)⟩
  · refine z_iconst dX11_hinge_8 ⟨by decide, by decide⟩ ?_
    exact z_ireturn dX11_hinge_9 rfl rfl ⟨_, rfl, (h2.2 q5)⟩
set_option maxRecDepth 20000 in
theorem V_X11_cut {a : Int}  {μ : z_Mem} {d : Nat} {K : Int → z_Mem → Prop} (h : z_ci m_X11_isEdge [(2, 1), (0, a)] μ d (fun x3 m1 => (¬ x3 = 0 → z_ci m_X3_isHinge [(2, 21), (0, a)] m1 d (fun x8 m6 => (¬ x8 = 0 → z_cn m_X2_remember [(2, 80), (2, 21)] m6 d (fun m11 => z_cn m_X3_setCut [(2, 21), (0, a)] m11 d (fun m13 => z_cn m_X11_settle [(2, 1)] m13 d (fun m15 => z_ci m_X3_howMany [(2, 21)] m15 d (fun x19 m17 => K x19 m17))))) ∧ (x8 = 0 → K (-2) m6))) ∧ (x3 = 0 → K (-1) m1))) : z_ci m_X11_cut [(2, 1), (0, a)] μ (d + 1) K := by
  show z_R m_X11_cut 0 [some (2, 1), some (0, a)] [] z_n μ (d + 1) _
  refine z_aload_n dX11_cut_0 rfl ?_
  refine z_iload_n dX11_cut_1 rfl ?_
  refine n_vI (as := [(0, a)]) (rest := []) dX11_cut_2 zm_X11_isEdge zs_X11_126 k_1 (by decide) rfl rfl (Nat.le_of_ble_eq_true rfl) (Nat.le_of_ble_eq_true rfl) h (fun x3 m1 h2 => ?_)
  refine z_if_ne (tgt := 10) dX11_cut_5 (by decide) (fun q4 => ?_) (fun q5 => ?_)
  · refine z_aload_n dX11_cut_10 rfl ?_
    refine n_getp (ji := 4) dX11_cut_11 zf_X11_34 k_1 rfl (by decide) rfl p_1_4 ?_
    refine z_iload_n dX11_cut_14 rfl ?_
    refine n_vI (as := [(0, a)]) (rest := []) dX11_cut_15 zm_X3_isHinge zs_X11_130 k_21 (by decide) rfl rfl (Nat.le_of_ble_eq_true rfl) (Nat.le_of_ble_eq_true rfl) (h2.1 q4) (fun x8 m6 h7 => ?_)
    refine z_if_ne (tgt := 24) dX11_cut_18 (by decide) (fun q9 => ?_) (fun q10 => ?_)
    · refine z_aload_n dX11_cut_24 rfl ?_
      refine n_getp (ji := 11) dX11_cut_25 zf_X11_85 k_1 rfl (by decide) rfl p_1_11 ?_
      refine z_aload_n dX11_cut_28 rfl ?_
      refine n_getp (ji := 4) dX11_cut_29 zf_X11_34 k_1 rfl (by decide) rfl p_1_4 ?_
      refine n_vN (as := [(2, 21)]) (rest := []) dX11_cut_32 zm_X2_remember zs_X11_145 k_80 (by decide) rfl rfl (Nat.le_of_ble_eq_true rfl) (Nat.le_of_ble_eq_true rfl) (h7.1 q9) (fun m11 h12 => ?_)
      refine z_aload_n dX11_cut_35 rfl ?_
      refine n_getp (ji := 4) dX11_cut_36 zf_X11_34 k_1 rfl (by decide) rfl p_1_4 ?_
      refine z_iload_n dX11_cut_39 rfl ?_
      refine n_vN (as := [(0, a)]) (rest := []) dX11_cut_40 zm_X3_setCut zs_X11_156 k_21 (by decide) rfl rfl (Nat.le_of_ble_eq_true rfl) (Nat.le_of_ble_eq_true rfl) h12 (fun m13 h14 => ?_)
      refine z_aload_n dX11_cut_43 rfl ?_
      refine n_vN (as := []) (rest := []) dX11_cut_44 zm_X11_settle zs_X11_120 k_1 (by decide) rfl rfl (Nat.le_of_ble_eq_true rfl) (Nat.le_of_ble_eq_true rfl) h14 (fun m15 h16 => ?_)
      refine z_aload_n dX11_cut_47 rfl ?_
      refine n_getp (ji := 4) dX11_cut_48 zf_X11_34 k_1 rfl (by decide) rfl p_1_4 ?_
      refine n_vI (as := []) (rest := []) dX11_cut_51 zm_X3_howMany zs_X11_152 k_21 (by decide) rfl rfl (Nat.le_of_ble_eq_true rfl) (Nat.le_of_ble_eq_true rfl) h16 (fun x19 m17 h18 => ?_)
      exact z_ireturn dX11_cut_54 rfl rfl ⟨_, rfl, h18⟩
    · refine z_bipush dX11_cut_21 (by decide) ?_
      exact z_ireturn dX11_cut_23 rfl rfl ⟨_, rfl, (h7.2 q10)⟩
  · refine z_iconst dX11_cut_8 ⟨by decide, by decide⟩ ?_
    exact z_ireturn dX11_cut_9 rfl rfl ⟨_, rfl, (h2.2 q5)⟩
set_option maxRecDepth 20000 in
theorem V_X11_root {a : Int}  {μ : z_Mem} {d : Nat} {K : Int → z_Mem → Prop} (h : z_ci m_X11_isFace [(2, 1), (0, a)] μ d (fun x3 m1 => (¬ x3 = 0 → (¬ m1 21 1 = a → z_cn m_X2_remember [(2, 80), (2, 21)] m1 d (fun m8 => z_cn m_X11_settle [(2, 1)] (z_st m8 21 1 a) d (fun m10 => K (m8 21 1) m10))) ∧ (m1 21 1 = a → K (-2) m1)) ∧ (x3 = 0 → K (-1) m1))) : z_ci m_X11_root [(2, 1), (0, a)] μ (d + 1) K := by
  show z_R m_X11_root 0 [some (2, 1), some (0, a), none] [] z_n μ (d + 1) _
  refine z_aload_n dX11_root_0 rfl ?_
  refine z_iload_n dX11_root_1 rfl ?_
  refine n_vI (as := [(0, a)]) (rest := []) dX11_root_2 zm_X11_isFace zs_X11_159 k_1 (by decide) rfl rfl (Nat.le_of_ble_eq_true rfl) (Nat.le_of_ble_eq_true rfl) h (fun x3 m1 h2 => ?_)
  refine z_if_ne (tgt := 10) dX11_root_5 (by decide) (fun q4 => ?_) (fun q5 => ?_)
  · refine z_aload_n dX11_root_10 rfl ?_
    refine n_getp (ji := 4) dX11_root_11 zf_X11_34 k_1 rfl (by decide) rfl p_1_4 ?_
    refine n_getf (ji := 1) (t := 0) dX11_root_14 zf_X11_162 k_21 rfl (by decide) rfl ?_
    refine z_iload_n dX11_root_17 rfl ?_
    refine z_icmp_ne (tgt := 24) dX11_root_18 (by decide) (fun q6 => ?_) (fun q7 => ?_)
    · refine z_aload_n dX11_root_24 rfl ?_
      refine n_getp (ji := 11) dX11_root_25 zf_X11_85 k_1 rfl (by decide) rfl p_1_11 ?_
      refine z_aload_n dX11_root_28 rfl ?_
      refine n_getp (ji := 4) dX11_root_29 zf_X11_34 k_1 rfl (by decide) rfl p_1_4 ?_
      refine n_vN (as := [(2, 21)]) (rest := []) dX11_root_32 zm_X2_remember zs_X11_145 k_80 (by decide) rfl rfl (Nat.le_of_ble_eq_true rfl) (Nat.le_of_ble_eq_true rfl) ((h2.1 q4).1 q6) (fun m8 h9 => ?_)
      refine z_aload_n dX11_root_35 rfl ?_
      refine n_getp (ji := 4) dX11_root_36 zf_X11_34 k_1 rfl (by decide) rfl p_1_4 ?_
      refine n_getf (ji := 1) (t := 0) dX11_root_39 zf_X11_162 k_21 rfl (by decide) rfl ?_
      refine n_istore_n (lo' := [some (2, 1), some (0, a), some (0, m8 21 1)]) dX11_root_42 ⟨Nat.le_of_ble_eq_true rfl, Nat.le_of_ble_eq_true rfl⟩ rfl ?_
      refine z_aload_n dX11_root_43 rfl ?_
      refine n_getp (ji := 4) dX11_root_44 zf_X11_34 k_1 rfl (by decide) rfl p_1_4 ?_
      refine z_iload_n dX11_root_47 rfl ?_
      refine n_putI (ji := 1) dX11_root_48 zf_X11_162 k_21 rfl (by decide) rfl ?_
      refine z_aload_n dX11_root_51 rfl ?_
      refine n_vN (as := []) (rest := []) dX11_root_52 zm_X11_settle zs_X11_120 k_1 (by decide) rfl rfl (Nat.le_of_ble_eq_true rfl) (Nat.le_of_ble_eq_true rfl) h9 (fun m10 h11 => ?_)
      refine z_iload_n dX11_root_55 rfl ?_
      exact z_ireturn dX11_root_56 rfl rfl ⟨_, rfl, h11⟩
    · refine z_bipush dX11_root_21 (by decide) ?_
      exact z_ireturn dX11_root_23 rfl rfl ⟨_, rfl, ((h2.1 q4).2 q7)⟩
  · refine z_iconst dX11_root_8 ⟨by decide, by decide⟩ ?_
    exact z_ireturn dX11_root_9 rfl rfl ⟨_, rfl, (h2.2 q5)⟩
set_option maxRecDepth 20000 in
theorem V_X11_weigh {a b : Int}  {μ : z_Mem} {d : Nat} {K : Int → z_Mem → Prop} (h : z_ci m_X11_isEdge [(2, 1), (0, a)] μ d (fun x3 m1 => (x3 = 0 → K (-1) m1) ∧ (¬ x3 = 0 → (b < 0 → K (-1) m1) ∧ (0 ≤ b → (b ≤ 9 → ((0 : Int) ≤ a ∧ a < 60) ∧ ((¬ m1 22 a = b → z_cn m_X2_remember [(2, 80), (2, 21)] m1 d (fun m12 => ((0 : Int) ≤ a ∧ a < 60) ∧ (K (m1 22 a) (z_st m12 22 a b)))) ∧ (m1 22 a = b → K (-2) m1))) ∧ (9 < b → K (-1) m1))))) : z_ci m_X11_weigh [(2, 1), (0, a), (0, b)] μ (d + 1) K := by
  show z_R m_X11_weigh 0 [some (2, 1), some (0, a), some (0, b), none] [] z_n μ (d + 1) _
  refine z_aload_n dX11_weigh_0 rfl ?_
  refine z_iload_n dX11_weigh_1 rfl ?_
  refine n_vI (as := [(0, a)]) (rest := []) dX11_weigh_2 zm_X11_isEdge zs_X11_126 k_1 (by decide) rfl rfl (Nat.le_of_ble_eq_true rfl) (Nat.le_of_ble_eq_true rfl) h (fun x3 m1 h2 => ?_)
  refine z_if_eq (tgt := 18) dX11_weigh_5 (by decide) (fun q4 => ?_) (fun q5 => ?_)
  · refine z_iconst dX11_weigh_18 ⟨by decide, by decide⟩ ?_
    exact z_ireturn dX11_weigh_19 rfl rfl ⟨_, rfl, (h2.1 q4)⟩
  · refine z_iload_n dX11_weigh_8 rfl ?_
    refine z_if_lt (tgt := 18) dX11_weigh_9 (by decide) (fun q6 => ?_) (fun q7 => ?_)
    · refine z_iconst dX11_weigh_18 ⟨by decide, by decide⟩ ?_
      exact z_ireturn dX11_weigh_19 rfl rfl ⟨_, rfl, ((h2.2 q5).1 q6)⟩
    · refine z_iload_n dX11_weigh_12 rfl ?_
      refine z_bipush dX11_weigh_13 (by decide) ?_
      refine z_icmp_le (tgt := 20) dX11_weigh_15 (by decide) (fun q8 => ?_) (fun q9 => ?_)
      · refine z_aload_n dX11_weigh_20 rfl ?_
        refine n_getp (ji := 4) dX11_weigh_21 zf_X11_34 k_1 rfl (by decide) rfl p_1_4 ?_
        refine n_getp (ji := 2) dX11_weigh_24 zf_X11_165 k_21 rfl (by decide) rfl p_21_2 ?_
        refine z_iload_n dX11_weigh_27 rfl ?_
        refine n_iald dX11_weigh_28 k_22 (((h2.2 q5).2 q7).1 q8).1 ?_
        refine n_istore_n (lo' := [some (2, 1), some (0, a), some (0, b), some (0, m1 22 a)]) dX11_weigh_29 ⟨Nat.le_of_ble_eq_true rfl, Nat.le_of_ble_eq_true rfl⟩ rfl ?_
        refine z_iload_n dX11_weigh_30 rfl ?_
        refine z_iload_n dX11_weigh_31 rfl ?_
        refine z_icmp_ne (tgt := 38) dX11_weigh_32 (by decide) (fun q10 => ?_) (fun q11 => ?_)
        · refine z_aload_n dX11_weigh_38 rfl ?_
          refine n_getp (ji := 11) dX11_weigh_39 zf_X11_85 k_1 rfl (by decide) rfl p_1_11 ?_
          refine z_aload_n dX11_weigh_42 rfl ?_
          refine n_getp (ji := 4) dX11_weigh_43 zf_X11_34 k_1 rfl (by decide) rfl p_1_4 ?_
          refine n_vN (as := [(2, 21)]) (rest := []) dX11_weigh_46 zm_X2_remember zs_X11_145 k_80 (by decide) rfl rfl (Nat.le_of_ble_eq_true rfl) (Nat.le_of_ble_eq_true rfl) ((((h2.2 q5).2 q7).1 q8).2.1 q10) (fun m12 h13 => ?_)
          refine z_aload_n dX11_weigh_49 rfl ?_
          refine n_getp (ji := 4) dX11_weigh_50 zf_X11_34 k_1 rfl (by decide) rfl p_1_4 ?_
          refine n_getp (ji := 2) dX11_weigh_53 zf_X11_165 k_21 rfl (by decide) rfl p_21_2 ?_
          refine z_iload_n dX11_weigh_56 rfl ?_
          refine z_iload_n dX11_weigh_57 rfl ?_
          refine n_iast dX11_weigh_58 k_22 h13.1 ?_
          refine z_iload_n dX11_weigh_59 rfl ?_
          exact z_ireturn dX11_weigh_60 rfl rfl ⟨_, rfl, h13.2⟩
        · refine z_bipush dX11_weigh_35 (by decide) ?_
          exact z_ireturn dX11_weigh_37 rfl rfl ⟨_, rfl, ((((h2.2 q5).2 q7).1 q8).2.2 q11)⟩
      · refine z_iconst dX11_weigh_18 ⟨by decide, by decide⟩ ?_
        exact z_ireturn dX11_weigh_19 rfl rfl ⟨_, rfl, (((h2.2 q5).2 q7).2 q9)⟩
set_option maxRecDepth 20000 in
theorem V_X11_span  {μ : z_Mem} {d : Nat} {K : Int → z_Mem → Prop} (h : (¬ μ 6 2 = 0 → z_cn m_X2_remember [(2, 80), (2, 21)] μ d (fun m3 => z_ri m_X11_span 35 [some (2, 1), some (0, 0), some (0, 0)] (z_st m3 21 0 0) (d + 1) K)) ∧ (μ 6 2 = 0 → K (-1) μ)) : z_ci m_X11_span [(2, 1)] μ (d + 1) K := by
  show z_R m_X11_span 0 [some (2, 1), none, none] [] z_n μ (d + 1) _
  refine z_aload_n dX11_span_0 rfl ?_
  refine n_getp (ji := 3) dX11_span_1 zf_X11_27 k_1 rfl (by decide) rfl p_1_3 ?_
  refine n_getf (ji := 2) (t := 0) dX11_span_4 zf_X11_123 k_6 rfl (by decide) rfl ?_
  refine z_if_ne (tgt := 12) dX11_span_7 (by decide) (fun q1 => ?_) (fun q2 => ?_)
  · refine z_aload_n dX11_span_12 rfl ?_
    refine n_getp (ji := 11) dX11_span_13 zf_X11_85 k_1 rfl (by decide) rfl p_1_11 ?_
    refine z_aload_n dX11_span_16 rfl ?_
    refine n_getp (ji := 4) dX11_span_17 zf_X11_34 k_1 rfl (by decide) rfl p_1_4 ?_
    refine n_vN (as := [(2, 21)]) (rest := []) dX11_span_20 zm_X2_remember zs_X11_145 k_80 (by decide) rfl rfl (Nat.le_of_ble_eq_true rfl) (Nat.le_of_ble_eq_true rfl) (h.1 q1) (fun m3 h4 => ?_)
    refine z_aload_n dX11_span_23 rfl ?_
    refine n_getp (ji := 4) dX11_span_24 zf_X11_34 k_1 rfl (by decide) rfl p_1_4 ?_
    refine z_lconst0 dX11_span_27 ?_
    refine n_putJ (ji := 0) dX11_span_28 zf_X11_137 k_21 rfl (by decide) rfl ?_
    refine z_iconst dX11_span_31 ⟨by decide, by decide⟩ ?_
    refine n_istore_n (lo' := [some (2, 1), some (0, 0), none]) dX11_span_32 ⟨Nat.le_of_ble_eq_true rfl, Nat.le_of_ble_eq_true rfl⟩ rfl ?_
    refine z_iconst dX11_span_33 ⟨by decide, by decide⟩ ?_
    refine n_istore_n (lo' := [some (2, 1), some (0, 0), some (0, 0)]) dX11_span_34 ⟨Nat.le_of_ble_eq_true rfl, Nat.le_of_ble_eq_true rfl⟩ rfl ?_
    refine z_drop [some (2, 1), some (0, 0), some (0, 0)] ⟨rfl, rfl, rfl, trivial⟩ ?_
    exact h4
  · refine z_iconst dX11_span_10 ⟨by decide, by decide⟩ ?_
    exact z_ireturn dX11_span_11 rfl rfl ⟨_, rfl, (h.2 q2)⟩
set_option maxRecDepth 20000 in
theorem V_X11_span_35 {v1 v2 : Int}  {μ : z_Mem} {d : Nat} {K : Int → z_Mem → Prop} (h : (9 < v2 → z_cn m_X11_settle [(2, 1)] μ d (fun m3 => K v1 m3)) ∧ (v2 ≤ 9 → z_ci m_X11_spanBy [(2, 1), (0, v2)] μ d (fun x7 m5 => z_I (v2 * x7) ∧ (z_I (v1 + (v2 * x7)) ∧ (z_I (v2 + 1) ∧ (z_ri m_X11_span 35 [some (2, 1), some (0, v1 + (v2 * x7)), some (0, v2 + 1)] m5 (d + 1) K)))))) : z_ri m_X11_span 35 [some (2, 1), some (0, v1), some (0, v2)] μ (d + 1) K := by
  show z_R m_X11_span 35 [some (2, 1), some (0, v1), some (0, v2)] [] z_n μ (d + 1) _
  refine z_iload_n dX11_span_35 rfl ?_
  refine z_bipush dX11_span_36 (by decide) ?_
  refine z_icmp_gt (tgt := 57) dX11_span_38 (by decide) (fun q1 => ?_) (fun q2 => ?_)
  · refine z_aload_n dX11_span_57 rfl ?_
    refine n_vN (as := []) (rest := []) dX11_span_58 zm_X11_settle zs_X11_120 k_1 (by decide) rfl rfl (Nat.le_of_ble_eq_true rfl) (Nat.le_of_ble_eq_true rfl) (h.1 q1) (fun m3 h4 => ?_)
    refine z_iload_n dX11_span_61 rfl ?_
    exact z_ireturn dX11_span_62 rfl rfl ⟨_, rfl, h4⟩
  · refine z_iload_n dX11_span_41 rfl ?_
    refine z_iload_n dX11_span_42 rfl ?_
    refine z_aload_n dX11_span_43 rfl ?_
    refine z_iload_n dX11_span_44 rfl ?_
    refine n_vI (as := [(0, v2)]) (rest := [(0, v2), (0, v1)]) dX11_span_45 zm_X11_spanBy zs_X11_168 k_1 (by decide) rfl rfl (Nat.le_of_ble_eq_true rfl) (Nat.le_of_ble_eq_true rfl) (h.2 q2) (fun x7 m5 h6 => ?_)
    refine z_imul dX11_span_48 h6.1 ?_
    refine z_iadd dX11_span_49 h6.2.1 ?_
    refine n_istore_n (lo' := [some (2, 1), some (0, v1 + (v2 * x7)), some (0, v2)]) dX11_span_50 ⟨Nat.le_of_ble_eq_true rfl, Nat.le_of_ble_eq_true rfl⟩ rfl ?_
    refine n_iinc (lo' := [some (2, 1), some (0, v1 + (v2 * x7)), some (0, v2 + 1)]) dX11_span_51 rfl (by decide) h6.2.2.1 rfl ?_
    refine z_goto (tgt := 35) dX11_span_54 (by decide) ?_
    refine z_drop [some (2, 1), some (0, v1 + (v2 * x7)), some (0, v2 + 1)] ⟨rfl, rfl, rfl, trivial⟩ ?_
    exact h6.2.2.2
set_option maxRecDepth 20000 in
theorem V_X11_spanBy {a : Int}  {μ : z_Mem} {d : Nat} {K : Int → z_Mem → Prop} (h : z_ri m_X11_spanBy 4 [some (2, 1), some (0, a), some (0, 0), some (0, 0)] μ (d + 1) K) : z_ci m_X11_spanBy [(2, 1), (0, a)] μ (d + 1) K := by
  show z_R m_X11_spanBy 0 [some (2, 1), some (0, a), none, none] [] z_n μ (d + 1) _
  refine z_iconst dX11_spanBy_0 ⟨by decide, by decide⟩ ?_
  refine n_istore_n (lo' := [some (2, 1), some (0, a), some (0, 0), none]) dX11_spanBy_1 ⟨Nat.le_of_ble_eq_true rfl, Nat.le_of_ble_eq_true rfl⟩ rfl ?_
  refine z_iconst dX11_spanBy_2 ⟨by decide, by decide⟩ ?_
  refine n_istore_n (lo' := [some (2, 1), some (0, a), some (0, 0), some (0, 0)]) dX11_spanBy_3 ⟨Nat.le_of_ble_eq_true rfl, Nat.le_of_ble_eq_true rfl⟩ rfl ?_
  refine z_drop [some (2, 1), some (0, a), some (0, 0), some (0, 0)] ⟨rfl, rfl, rfl, rfl, trivial⟩ ?_
  exact h
set_option maxRecDepth 20000 in
theorem V_X11_spanBy_4 {v1 v2 v3 : Int}  {μ : z_Mem} {d : Nat} {K : Int → z_Mem → Prop} (h : (μ 6 8 ≤ v3 → K v2 μ) ∧ (v3 < μ 6 8 → (60 ≤ v3 → K v2 μ) ∧ (v3 < 60 → ((0 : Int) ≤ v3 ∧ v3 < 60) ∧ ((¬ μ 22 v3 = v1 → z_I (v3 + 1) ∧ (z_ri m_X11_spanBy 4 [some (2, 1), some (0, v1), some (0, v2), some (0, v3 + 1)] μ (d + 1) K)) ∧ (μ 22 v3 = v1 → z_ci m_X9_faceOf [(2, 6), (0, v3), (0, 0)] μ d (fun x9 m7 => z_ci m_X9_faceOf [(2, 6), (0, v3), (0, 1)] m7 d (fun x12 m10 => z_ci m_X9_isJoined [(2, 6), (0, x9), (0, x12), (1, m10 21 0)] m10 d (fun x15 m13 => (¬ x15 = 0 → z_I (v3 + 1) ∧ (z_ri m_X11_spanBy 4 [some (2, 1), some (0, v1), some (0, v2), some (0, v3 + 1)] m13 (d + 1) K)) ∧ (x15 = 0 → z_cn m_X3_setHinge [(2, 21), (0, v3)] m13 d (fun m18 => z_I (v2 + 1) ∧ (z_I (v3 + 1) ∧ (z_ri m_X11_spanBy 4 [some (2, 1), some (0, v1), some (0, v2 + 1), some (0, v3 + 1)] m18 (d + 1) K)))))))))))) : z_ri m_X11_spanBy 4 [some (2, 1), some (0, v1), some (0, v2), some (0, v3)] μ (d + 1) K := by
  show z_R m_X11_spanBy 4 [some (2, 1), some (0, v1), some (0, v2), some (0, v3)] [] z_n μ (d + 1) _
  refine z_iload_n dX11_spanBy_4 rfl ?_
  refine z_aload_n dX11_spanBy_5 rfl ?_
  refine n_getp (ji := 3) dX11_spanBy_6 zf_X11_27 k_1 rfl (by decide) rfl p_1_3 ?_
  refine n_getf (ji := 8) (t := 0) dX11_spanBy_9 zf_X11_172 k_6 rfl (by decide) rfl ?_
  refine z_icmp_ge (tgt := 86) dX11_spanBy_12 (by decide) (fun q1 => ?_) (fun q2 => ?_)
  · refine z_iload_n dX11_spanBy_86 rfl ?_
    exact z_ireturn dX11_spanBy_87 rfl rfl ⟨_, rfl, (h.1 q1)⟩
  · refine z_iload_n dX11_spanBy_15 rfl ?_
    refine z_bipush dX11_spanBy_16 (by decide) ?_
    refine z_icmp_ge (tgt := 86) dX11_spanBy_18 (by decide) (fun q3 => ?_) (fun q4 => ?_)
    · refine z_iload_n dX11_spanBy_86 rfl ?_
      exact z_ireturn dX11_spanBy_87 rfl rfl ⟨_, rfl, ((h.2 q2).1 q3)⟩
    · refine z_aload_n dX11_spanBy_21 rfl ?_
      refine n_getp (ji := 4) dX11_spanBy_22 zf_X11_34 k_1 rfl (by decide) rfl p_1_4 ?_
      refine n_getp (ji := 2) dX11_spanBy_25 zf_X11_165 k_21 rfl (by decide) rfl p_21_2 ?_
      refine z_iload_n dX11_spanBy_28 rfl ?_
      refine n_iald dX11_spanBy_29 k_22 ((h.2 q2).2 q4).1 ?_
      refine z_iload_n dX11_spanBy_30 rfl ?_
      refine z_icmp_ne (tgt := 80) dX11_spanBy_31 (by decide) (fun q5 => ?_) (fun q6 => ?_)
      · refine n_iinc (lo' := [some (2, 1), some (0, v1), some (0, v2), some (0, v3 + 1)]) dX11_spanBy_80 rfl (by decide) (((h.2 q2).2 q4).2.1 q5).1 rfl ?_
        refine z_goto (tgt := 4) dX11_spanBy_83 (by decide) ?_
        refine z_drop [some (2, 1), some (0, v1), some (0, v2), some (0, v3 + 1)] ⟨rfl, rfl, rfl, rfl, trivial⟩ ?_
        exact (((h.2 q2).2 q4).2.1 q5).2
      · refine z_aload_n dX11_spanBy_34 rfl ?_
        refine n_getp (ji := 3) dX11_spanBy_35 zf_X11_27 k_1 rfl (by decide) rfl p_1_3 ?_
        refine z_aload_n dX11_spanBy_38 rfl ?_
        refine n_getp (ji := 3) dX11_spanBy_39 zf_X11_27 k_1 rfl (by decide) rfl p_1_3 ?_
        refine z_iload_n dX11_spanBy_42 rfl ?_
        refine z_iconst dX11_spanBy_43 ⟨by decide, by decide⟩ ?_
        refine n_vI (as := [(0, v3), (0, 0)]) (rest := [(2, 6)]) dX11_spanBy_44 zm_X9_faceOf zs_X11_133 k_6 (by decide) rfl rfl (Nat.le_of_ble_eq_true rfl) (Nat.le_of_ble_eq_true rfl) (((h.2 q2).2 q4).2.2 q6) (fun x9 m7 h8 => ?_)
        refine z_aload_n dX11_spanBy_47 rfl ?_
        refine n_getp (ji := 3) dX11_spanBy_48 zf_X11_27 k_1 rfl (by decide) rfl p_1_3 ?_
        refine z_iload_n dX11_spanBy_51 rfl ?_
        refine z_iconst dX11_spanBy_52 ⟨by decide, by decide⟩ ?_
        refine n_vI (as := [(0, v3), (0, 1)]) (rest := [(0, x9), (2, 6)]) dX11_spanBy_53 zm_X9_faceOf zs_X11_133 k_6 (by decide) rfl rfl (Nat.le_of_ble_eq_true rfl) (Nat.le_of_ble_eq_true rfl) h8 (fun x12 m10 h11 => ?_)
        refine z_aload_n dX11_spanBy_56 rfl ?_
        refine n_getp (ji := 4) dX11_spanBy_57 zf_X11_34 k_1 rfl (by decide) rfl p_1_4 ?_
        refine n_getf (ji := 0) (t := 1) dX11_spanBy_60 zf_X11_137 k_21 rfl (by decide) rfl ?_
        refine n_vI (as := [(0, x9), (0, x12), (1, m10 21 0)]) (rest := []) dX11_spanBy_63 zm_X9_isJoined zs_X11_141 k_6 (by decide) rfl rfl (Nat.le_of_ble_eq_true rfl) (Nat.le_of_ble_eq_true rfl) h11 (fun x15 m13 h14 => ?_)
        refine z_if_ne (tgt := 80) dX11_spanBy_66 (by decide) (fun q16 => ?_) (fun q17 => ?_)
        · refine n_iinc (lo' := [some (2, 1), some (0, v1), some (0, v2), some (0, v3 + 1)]) dX11_spanBy_80 rfl (by decide) (h14.1 q16).1 rfl ?_
          refine z_goto (tgt := 4) dX11_spanBy_83 (by decide) ?_
          refine z_drop [some (2, 1), some (0, v1), some (0, v2), some (0, v3 + 1)] ⟨rfl, rfl, rfl, rfl, trivial⟩ ?_
          exact (h14.1 q16).2
        · refine z_aload_n dX11_spanBy_69 rfl ?_
          refine n_getp (ji := 4) dX11_spanBy_70 zf_X11_34 k_1 rfl (by decide) rfl p_1_4 ?_
          refine z_iload_n dX11_spanBy_73 rfl ?_
          refine n_vN (as := [(0, v3)]) (rest := []) dX11_spanBy_74 zm_X3_setHinge zs_X11_149 k_21 (by decide) rfl rfl (Nat.le_of_ble_eq_true rfl) (Nat.le_of_ble_eq_true rfl) (h14.2 q17) (fun m18 h19 => ?_)
          refine n_iinc (lo' := [some (2, 1), some (0, v1), some (0, v2 + 1), some (0, v3)]) dX11_spanBy_77 rfl (by decide) h19.1 rfl ?_
          refine n_iinc (lo' := [some (2, 1), some (0, v1), some (0, v2 + 1), some (0, v3 + 1)]) dX11_spanBy_80 rfl (by decide) h19.2.1 rfl ?_
          refine z_goto (tgt := 4) dX11_spanBy_83 (by decide) ?_
          refine z_drop [some (2, 1), some (0, v1), some (0, v2 + 1), some (0, v3 + 1)] ⟨rfl, rfl, rfl, rfl, trivial⟩ ?_
          exact h19.2.2
set_option maxRecDepth 20000 in
theorem V_X11_tree {a : Int}  {μ : z_Mem} {d : Nat} {K : Int → z_Mem → Prop} (h : (a < 0 → K (-1) μ) ∧ (0 ≤ a → (1 < a → K (-1) μ) ∧ (a ≤ 1 → (¬ μ 6 2 = 0 → z_cn m_X2_remember [(2, 80), (2, 21)] μ d (fun m7 => (¬ a = 0 → z_ci m_X9_growByDepth [(2, 6), (2, 21)] m7 d (fun x13 m11 => z_cn m_X11_settle [(2, 1)] m11 d (fun m14 => K x13 m14))) ∧ (a = 0 → z_ci m_X9_growByBreadth [(2, 6), (2, 21)] m7 d (fun x18 m16 => z_cn m_X11_settle [(2, 1)] m16 d (fun m19 => K x18 m19))))) ∧ (μ 6 2 = 0 → K (-1) μ)))) : z_ci m_X11_tree [(2, 1), (0, a)] μ (d + 1) K := by
  show z_R m_X11_tree 0 [some (2, 1), some (0, a), none] [] z_n μ (d + 1) _
  refine z_iload_n dX11_tree_0 rfl ?_
  refine z_if_lt (tgt := 19) dX11_tree_1 (by decide) (fun q1 => ?_) (fun q2 => ?_)
  · refine z_iconst dX11_tree_19 ⟨by decide, by decide⟩ ?_
    exact z_ireturn dX11_tree_20 rfl rfl ⟨_, rfl, (h.1 q1)⟩
  · refine z_iload_n dX11_tree_4 rfl ?_
    refine z_iconst dX11_tree_5 ⟨by decide, by decide⟩ ?_
    refine z_icmp_gt (tgt := 19) dX11_tree_6 (by decide) (fun q3 => ?_) (fun q4 => ?_)
    · refine z_iconst dX11_tree_19 ⟨by decide, by decide⟩ ?_
      exact z_ireturn dX11_tree_20 rfl rfl ⟨_, rfl, ((h.2 q2).1 q3)⟩
    · refine z_aload_n dX11_tree_9 rfl ?_
      refine n_getp (ji := 3) dX11_tree_10 zf_X11_27 k_1 rfl (by decide) rfl p_1_3 ?_
      refine n_getf (ji := 2) (t := 0) dX11_tree_13 zf_X11_123 k_6 rfl (by decide) rfl ?_
      refine z_if_ne (tgt := 21) dX11_tree_16 (by decide) (fun q5 => ?_) (fun q6 => ?_)
      · refine z_aload_n dX11_tree_21 rfl ?_
        refine n_getp (ji := 11) dX11_tree_22 zf_X11_85 k_1 rfl (by decide) rfl p_1_11 ?_
        refine z_aload_n dX11_tree_25 rfl ?_
        refine n_getp (ji := 4) dX11_tree_26 zf_X11_34 k_1 rfl (by decide) rfl p_1_4 ?_
        refine n_vN (as := [(2, 21)]) (rest := []) dX11_tree_29 zm_X2_remember zs_X11_145 k_80 (by decide) rfl rfl (Nat.le_of_ble_eq_true rfl) (Nat.le_of_ble_eq_true rfl) (((h.2 q2).2 q4).1 q5) (fun m7 h8 => ?_)
        refine z_iload_n dX11_tree_32 rfl ?_
        refine z_if_ne (tgt := 50) dX11_tree_33 (by decide) (fun q9 => ?_) (fun q10 => ?_)
        · refine z_aload_n dX11_tree_50 rfl ?_
          refine n_getp (ji := 3) dX11_tree_51 zf_X11_27 k_1 rfl (by decide) rfl p_1_3 ?_
          refine z_aload_n dX11_tree_54 rfl ?_
          refine n_getp (ji := 4) dX11_tree_55 zf_X11_34 k_1 rfl (by decide) rfl p_1_4 ?_
          refine n_vI (as := [(2, 21)]) (rest := []) dX11_tree_58 zm_X9_growByDepth zs_X11_179 k_6 (by decide) rfl rfl (Nat.le_of_ble_eq_true rfl) (Nat.le_of_ble_eq_true rfl) (h8.1 q9) (fun x13 m11 h12 => ?_)
          refine n_istore_n (lo' := [some (2, 1), some (0, a), some (0, x13)]) dX11_tree_61 ⟨Nat.le_of_ble_eq_true rfl, Nat.le_of_ble_eq_true rfl⟩ rfl ?_
          refine z_aload_n dX11_tree_62 rfl ?_
          refine n_vN (as := []) (rest := []) dX11_tree_63 zm_X11_settle zs_X11_120 k_1 (by decide) rfl rfl (Nat.le_of_ble_eq_true rfl) (Nat.le_of_ble_eq_true rfl) h12 (fun m14 h15 => ?_)
          refine z_iload_n dX11_tree_66 rfl ?_
          exact z_ireturn dX11_tree_67 rfl rfl ⟨_, rfl, h15⟩
        · refine z_aload_n dX11_tree_36 rfl ?_
          refine n_getp (ji := 3) dX11_tree_37 zf_X11_27 k_1 rfl (by decide) rfl p_1_3 ?_
          refine z_aload_n dX11_tree_40 rfl ?_
          refine n_getp (ji := 4) dX11_tree_41 zf_X11_34 k_1 rfl (by decide) rfl p_1_4 ?_
          refine n_vI (as := [(2, 21)]) (rest := []) dX11_tree_44 zm_X9_growByBreadth zs_X11_175 k_6 (by decide) rfl rfl (Nat.le_of_ble_eq_true rfl) (Nat.le_of_ble_eq_true rfl) (h8.2 q10) (fun x18 m16 h17 => ?_)
          refine z_goto (tgt := 61) dX11_tree_47 (by decide) ?_
          refine n_istore_n (lo' := [some (2, 1), some (0, a), some (0, x18)]) dX11_tree_61 ⟨Nat.le_of_ble_eq_true rfl, Nat.le_of_ble_eq_true rfl⟩ rfl ?_
          refine z_aload_n dX11_tree_62 rfl ?_
          refine n_vN (as := []) (rest := []) dX11_tree_63 zm_X11_settle zs_X11_120 k_1 (by decide) rfl rfl (Nat.le_of_ble_eq_true rfl) (Nat.le_of_ble_eq_true rfl) h17 (fun m19 h20 => ?_)
          refine z_iload_n dX11_tree_66 rfl ?_
          exact z_ireturn dX11_tree_67 rfl rfl ⟨_, rfl, h20⟩
      · refine z_iconst dX11_tree_19 ⟨by decide, by decide⟩ ?_
        exact z_ireturn dX11_tree_20 rfl rfl ⟨_, rfl, (((h.2 q2).2 q4).2 q6)⟩
set_option maxRecDepth 20000 in
theorem V_X11_trade {a b : Int}  {μ : z_Mem} {d : Nat} {K : Int → z_Mem → Prop} (h : z_ci m_X11_isEdge [(2, 1), (0, a)] μ d (fun x3 m1 => (x3 = 0 → K (-1) m1) ∧ (¬ x3 = 0 → z_ci m_X11_isEdge [(2, 1), (0, b)] m1 d (fun x8 m6 => (¬ x8 = 0 → z_ci m_X3_isHinge [(2, 21), (0, a)] m6 d (fun x13 m11 => (¬ x13 = 0 → K (-2) m11) ∧ (x13 = 0 → z_ci m_X3_isHinge [(2, 21), (0, b)] m11 d (fun x18 m16 => (¬ x18 = 0 → ((0 : Int) ≤ b ∧ b < 63) ∧ (((0 : Int) ≤ m16 21 0 ∧ (0 : Int) ≤ ((2 : Int) ^ (b : Int).toNat)) ∧ (z_ci m_X11_allJoined [(2, 1)] m16 d (fun x23 m21 => (x23 = 0 → K (-3) m21) ∧ (¬ x23 = 0 → z_ci m_X9_faceOf [(2, 6), (0, a), (0, 0)] m21 d (fun x28 m26 => z_ci m_X9_faceOf [(2, 6), (0, a), (0, 1)] m26 d (fun x31 m29 => z_ci m_X9_isJoined [(2, 6), (0, x28), (0, x31), (1, ((((m16 21 0 : Int).toNat ^^^ ((m16 21 0 : Int).toNat &&& (((2 : Int) ^ (b : Int).toNat) : Int).toNat) : Nat)) : Int))] m29 d (fun x34 m32 => (x34 = 0 → z_cn m_X2_remember [(2, 80), (2, 21)] m32 d (fun m37 => z_cn m_X3_swap [(2, 21), (0, a), (0, b)] m37 d (fun m39 => z_cn m_X11_settle [(2, 1)] m39 d (fun m41 => z_ci m_X6_overlap [(2, 23), (0, (-1))] m41 d (fun x45 m43 => K x45 m43))))) ∧ (¬ x34 = 0 → K (-3) m32))))))))) ∧ (x18 = 0 → K (-2) m16))))) ∧ (x8 = 0 → K (-1) m6))))) : z_ci m_X11_trade [(2, 1), (0, a), (0, b)] μ (d + 1) K := by
  show z_R m_X11_trade 0 [some (2, 1), some (0, a), some (0, b), none, none] [] z_n μ (d + 1) _
  refine z_aload_n dX11_trade_0 rfl ?_
  refine z_iload_n dX11_trade_1 rfl ?_
  refine n_vI (as := [(0, a)]) (rest := []) dX11_trade_2 zm_X11_isEdge zs_X11_126 k_1 (by decide) rfl rfl (Nat.le_of_ble_eq_true rfl) (Nat.le_of_ble_eq_true rfl) h (fun x3 m1 h2 => ?_)
  refine z_if_eq (tgt := 16) dX11_trade_5 (by decide) (fun q4 => ?_) (fun q5 => ?_)
  · refine z_iconst dX11_trade_16 ⟨by decide, by decide⟩ ?_
    exact z_ireturn dX11_trade_17 rfl rfl ⟨_, rfl, (h2.1 q4)⟩
  · refine z_aload_n dX11_trade_8 rfl ?_
    refine z_iload_n dX11_trade_9 rfl ?_
    refine n_vI (as := [(0, b)]) (rest := []) dX11_trade_10 zm_X11_isEdge zs_X11_126 k_1 (by decide) rfl rfl (Nat.le_of_ble_eq_true rfl) (Nat.le_of_ble_eq_true rfl) (h2.2 q5) (fun x8 m6 h7 => ?_)
    refine z_if_ne (tgt := 18) dX11_trade_13 (by decide) (fun q9 => ?_) (fun q10 => ?_)
    · refine z_aload_n dX11_trade_18 rfl ?_
      refine n_getp (ji := 4) dX11_trade_19 zf_X11_34 k_1 rfl (by decide) rfl p_1_4 ?_
      refine z_iload_n dX11_trade_22 rfl ?_
      refine n_vI (as := [(0, a)]) (rest := []) dX11_trade_23 zm_X3_isHinge zs_X11_130 k_21 (by decide) rfl rfl (Nat.le_of_ble_eq_true rfl) (Nat.le_of_ble_eq_true rfl) (h7.1 q9) (fun x13 m11 h12 => ?_)
      refine z_if_ne (tgt := 40) dX11_trade_26 (by decide) (fun q14 => ?_) (fun q15 => ?_)
      · refine z_bipush dX11_trade_40 (by decide) ?_
        exact z_ireturn dX11_trade_42 rfl rfl ⟨_, rfl, (h12.1 q14)⟩
      · refine z_aload_n dX11_trade_29 rfl ?_
        refine n_getp (ji := 4) dX11_trade_30 zf_X11_34 k_1 rfl (by decide) rfl p_1_4 ?_
        refine z_iload_n dX11_trade_33 rfl ?_
        refine n_vI (as := [(0, b)]) (rest := []) dX11_trade_34 zm_X3_isHinge zs_X11_130 k_21 (by decide) rfl rfl (Nat.le_of_ble_eq_true rfl) (Nat.le_of_ble_eq_true rfl) (h12.2 q15) (fun x18 m16 h17 => ?_)
        refine z_if_ne (tgt := 43) dX11_trade_37 (by decide) (fun q19 => ?_) (fun q20 => ?_)
        · refine z_aload_n dX11_trade_43 rfl ?_
          refine n_getp (ji := 4) dX11_trade_44 zf_X11_34 k_1 rfl (by decide) rfl p_1_4 ?_
          refine n_getf (ji := 0) (t := 1) dX11_trade_47 zf_X11_137 k_21 rfl (by decide) rfl ?_
          refine z_lconst1 dX11_trade_50 ?_
          refine z_iload_n dX11_trade_51 rfl ?_
          refine n_lshl1 dX11_trade_52 (h17.1 q19).1 ?_
          refine z_ldc2 (n := -1) dX11_trade_53 zc_847 ⟨by decide, by decide⟩ ?_
          refine z_lxorn dX11_trade_56 rfl ?_
          refine z_landn dX11_trade_57 (((2 : Int) ^ (b : Int).toNat)) rfl (h17.1 q19).2.1.1 (h17.1 q19).2.1.2 ?_
          refine n_lstore_n (lo' := [some (2, 1), some (0, a), some (0, b), some (1, ((((m16 21 0 : Int).toNat ^^^ ((m16 21 0 : Int).toNat &&& (((2 : Int) ^ (b : Int).toNat) : Int).toNat) : Nat)) : Int)), none]) dX11_trade_58 ⟨Nat.le_of_ble_eq_true rfl, Nat.le_of_ble_eq_true rfl⟩ rfl ?_
          refine z_aload_n dX11_trade_59 rfl ?_
          refine n_vI (as := []) (rest := []) dX11_trade_60 zm_X11_allJoined zs_X11_184 k_1 (by decide) rfl rfl (Nat.le_of_ble_eq_true rfl) (Nat.le_of_ble_eq_true rfl) (h17.1 q19).2.2 (fun x23 m21 h22 => ?_)
          refine z_if_eq (tgt := 95) dX11_trade_63 (by decide) (fun q24 => ?_) (fun q25 => ?_)
          · refine z_bipush dX11_trade_95 (by decide) ?_
            exact z_ireturn dX11_trade_97 rfl rfl ⟨_, rfl, (h22.1 q24)⟩
          · refine z_aload_n dX11_trade_66 rfl ?_
            refine n_getp (ji := 3) dX11_trade_67 zf_X11_27 k_1 rfl (by decide) rfl p_1_3 ?_
            refine z_aload_n dX11_trade_70 rfl ?_
            refine n_getp (ji := 3) dX11_trade_71 zf_X11_27 k_1 rfl (by decide) rfl p_1_3 ?_
            refine z_iload_n dX11_trade_74 rfl ?_
            refine z_iconst dX11_trade_75 ⟨by decide, by decide⟩ ?_
            refine n_vI (as := [(0, a), (0, 0)]) (rest := [(2, 6)]) dX11_trade_76 zm_X9_faceOf zs_X11_133 k_6 (by decide) rfl rfl (Nat.le_of_ble_eq_true rfl) (Nat.le_of_ble_eq_true rfl) (h22.2 q25) (fun x28 m26 h27 => ?_)
            refine z_aload_n dX11_trade_79 rfl ?_
            refine n_getp (ji := 3) dX11_trade_80 zf_X11_27 k_1 rfl (by decide) rfl p_1_3 ?_
            refine z_iload_n dX11_trade_83 rfl ?_
            refine z_iconst dX11_trade_84 ⟨by decide, by decide⟩ ?_
            refine n_vI (as := [(0, a), (0, 1)]) (rest := [(0, x28), (2, 6)]) dX11_trade_85 zm_X9_faceOf zs_X11_133 k_6 (by decide) rfl rfl (Nat.le_of_ble_eq_true rfl) (Nat.le_of_ble_eq_true rfl) h27 (fun x31 m29 h30 => ?_)
            refine z_lload_n dX11_trade_88 rfl ?_
            refine n_vI (as := [(0, x28), (0, x31), (1, ((((m16 21 0 : Int).toNat ^^^ ((m16 21 0 : Int).toNat &&& (((2 : Int) ^ (b : Int).toNat) : Int).toNat) : Nat)) : Int))]) (rest := []) dX11_trade_89 zm_X9_isJoined zs_X11_141 k_6 (by decide) rfl rfl (Nat.le_of_ble_eq_true rfl) (Nat.le_of_ble_eq_true rfl) h30 (fun x34 m32 h33 => ?_)
            refine z_if_eq (tgt := 98) dX11_trade_92 (by decide) (fun q35 => ?_) (fun q36 => ?_)
            · refine z_aload_n dX11_trade_98 rfl ?_
              refine n_getp (ji := 11) dX11_trade_99 zf_X11_85 k_1 rfl (by decide) rfl p_1_11 ?_
              refine z_aload_n dX11_trade_102 rfl ?_
              refine n_getp (ji := 4) dX11_trade_103 zf_X11_34 k_1 rfl (by decide) rfl p_1_4 ?_
              refine n_vN (as := [(2, 21)]) (rest := []) dX11_trade_106 zm_X2_remember zs_X11_145 k_80 (by decide) rfl rfl (Nat.le_of_ble_eq_true rfl) (Nat.le_of_ble_eq_true rfl) (h33.1 q35) (fun m37 h38 => ?_)
              refine z_aload_n dX11_trade_109 rfl ?_
              refine n_getp (ji := 4) dX11_trade_110 zf_X11_34 k_1 rfl (by decide) rfl p_1_4 ?_
              refine z_iload_n dX11_trade_113 rfl ?_
              refine z_iload_n dX11_trade_114 rfl ?_
              refine n_vN (as := [(0, a), (0, b)]) (rest := []) dX11_trade_115 zm_X3_swap zs_X11_188 k_21 (by decide) rfl rfl (Nat.le_of_ble_eq_true rfl) (Nat.le_of_ble_eq_true rfl) h38 (fun m39 h40 => ?_)
              refine z_aload_n dX11_trade_118 rfl ?_
              refine n_vN (as := []) (rest := []) dX11_trade_119 zm_X11_settle zs_X11_120 k_1 (by decide) rfl rfl (Nat.le_of_ble_eq_true rfl) (Nat.le_of_ble_eq_true rfl) h40 (fun m41 h42 => ?_)
              refine z_aload_n dX11_trade_122 rfl ?_
              refine n_getp (ji := 5) dX11_trade_123 zf_X11_41 k_1 rfl (by decide) rfl p_1_5 ?_
              refine z_iconst dX11_trade_126 ⟨by decide, by decide⟩ ?_
              refine n_vI (as := [(0, (-1))]) (rest := []) dX11_trade_127 zm_X6_overlap zs_X11_192 k_23 (by decide) rfl rfl (Nat.le_of_ble_eq_true rfl) (Nat.le_of_ble_eq_true rfl) h42 (fun x45 m43 h44 => ?_)
              exact z_ireturn dX11_trade_130 rfl rfl ⟨_, rfl, h44⟩
            · refine z_bipush dX11_trade_95 (by decide) ?_
              exact z_ireturn dX11_trade_97 rfl rfl ⟨_, rfl, (h33.2 q36)⟩
        · refine z_bipush dX11_trade_40 (by decide) ?_
          exact z_ireturn dX11_trade_42 rfl rfl ⟨_, rfl, (h17.2 q20)⟩
    · refine z_iconst dX11_trade_16 ⟨by decide, by decide⟩ ?_
      exact z_ireturn dX11_trade_17 rfl rfl ⟨_, rfl, (h7.2 q10)⟩
set_option maxRecDepth 20000 in
theorem V_X11_mend  {μ : z_Mem} {d : Nat} {K : Int → z_Mem → Prop} (h : z_ci m_X11_allJoined [(2, 1)] μ d (fun x3 m1 => (¬ x3 = 0 → z_cn m_X2_remember [(2, 80), (2, 21)] m1 d (fun m6 => z_ri m_X11_mend 22 [some (2, 1), some (0, 0)] m6 (d + 1) K)) ∧ (x3 = 0 → K (-1) m1))) : z_ci m_X11_mend [(2, 1)] μ (d + 1) K := by
  show z_R m_X11_mend 0 [some (2, 1), none] [] z_n μ (d + 1) _
  refine z_aload_n dX11_mend_0 rfl ?_
  refine n_vI (as := []) (rest := []) dX11_mend_1 zm_X11_allJoined zs_X11_184 k_1 (by decide) rfl rfl (Nat.le_of_ble_eq_true rfl) (Nat.le_of_ble_eq_true rfl) h (fun x3 m1 h2 => ?_)
  refine z_if_ne (tgt := 9) dX11_mend_4 (by decide) (fun q4 => ?_) (fun q5 => ?_)
  · refine z_aload_n dX11_mend_9 rfl ?_
    refine n_getp (ji := 11) dX11_mend_10 zf_X11_85 k_1 rfl (by decide) rfl p_1_11 ?_
    refine z_aload_n dX11_mend_13 rfl ?_
    refine n_getp (ji := 4) dX11_mend_14 zf_X11_34 k_1 rfl (by decide) rfl p_1_4 ?_
    refine n_vN (as := [(2, 21)]) (rest := []) dX11_mend_17 zm_X2_remember zs_X11_145 k_80 (by decide) rfl rfl (Nat.le_of_ble_eq_true rfl) (Nat.le_of_ble_eq_true rfl) (h2.1 q4) (fun m6 h7 => ?_)
    refine z_iconst dX11_mend_20 ⟨by decide, by decide⟩ ?_
    refine n_istore_n (lo' := [some (2, 1), some (0, 0)]) dX11_mend_21 ⟨Nat.le_of_ble_eq_true rfl, Nat.le_of_ble_eq_true rfl⟩ rfl ?_
    refine z_drop [some (2, 1), some (0, 0)] ⟨rfl, rfl, trivial⟩ ?_
    exact h7
  · refine z_iconst dX11_mend_7 ⟨by decide, by decide⟩ ?_
    exact z_ireturn dX11_mend_8 rfl rfl ⟨_, rfl, (h2.2 q5)⟩
set_option maxRecDepth 20000 in
theorem V_X11_mend_22 {v1 : Int}  {μ : z_Mem} {d : Nat} {K : Int → z_Mem → Prop} (h : (435 ≤ v1 → K v1 μ) ∧ (v1 < 435 → z_cn m_X10_look [(2, 29), (2, 21)] μ d (fun m3 => (m3 29 1 = (-1) → K v1 m3) ∧ (¬ m3 29 1 = (-1) → z_ci m_X6_overlap [(2, 23), (0, (-1))] m3 d (fun x9 m7 => (m3 29 3 < x9 → z_cn m_X3_swap [(2, 21), (0, m7 29 1), (0, m7 29 2)] m7 d (fun m12 => z_cn m_X11_settle [(2, 1)] m12 d (fun m14 => z_I (v1 + 1) ∧ (z_ri m_X11_mend 22 [some (2, 1), some (0, v1 + 1)] m14 (d + 1) K)))) ∧ (x9 ≤ m3 29 3 → K v1 m7)))))) : z_ri m_X11_mend 22 [some (2, 1), some (0, v1)] μ (d + 1) K := by
  show z_R m_X11_mend 22 [some (2, 1), some (0, v1)] [] z_n μ (d + 1) _
  refine z_iload_n dX11_mend_22 rfl ?_
  refine z_sipush dX11_mend_23 (by decide) ?_
  refine z_icmp_ge (tgt := 103) dX11_mend_26 (by decide) (fun q1 => ?_) (fun q2 => ?_)
  · refine z_iload_n dX11_mend_103 rfl ?_
    exact z_ireturn dX11_mend_104 rfl rfl ⟨_, rfl, (h.1 q1)⟩
  · refine z_aload_n dX11_mend_29 rfl ?_
    refine n_getp (ji := 6) dX11_mend_30 zf_X11_50 k_1 rfl (by decide) rfl p_1_6 ?_
    refine z_aload_n dX11_mend_33 rfl ?_
    refine n_getp (ji := 4) dX11_mend_34 zf_X11_34 k_1 rfl (by decide) rfl p_1_4 ?_
    refine n_vN (as := [(2, 21)]) (rest := []) dX11_mend_37 zm_X10_look zs_X11_195 k_29 (by decide) rfl rfl (Nat.le_of_ble_eq_true rfl) (Nat.le_of_ble_eq_true rfl) (h.2 q2) (fun m3 h4 => ?_)
    refine z_aload_n dX11_mend_40 rfl ?_
    refine n_getp (ji := 6) dX11_mend_41 zf_X11_50 k_1 rfl (by decide) rfl p_1_6 ?_
    refine n_getf (ji := 1) (t := 0) dX11_mend_44 zf_X11_198 k_29 rfl (by decide) rfl ?_
    refine z_iconst dX11_mend_47 ⟨by decide, by decide⟩ ?_
    refine z_icmp_eq (tgt := 103) dX11_mend_48 (by decide) (fun q5 => ?_) (fun q6 => ?_)
    · refine z_iload_n dX11_mend_103 rfl ?_
      exact z_ireturn dX11_mend_104 rfl rfl ⟨_, rfl, (h4.1 q5)⟩
    · refine z_aload_n dX11_mend_51 rfl ?_
      refine n_getp (ji := 6) dX11_mend_52 zf_X11_50 k_1 rfl (by decide) rfl p_1_6 ?_
      refine n_getf (ji := 3) (t := 0) dX11_mend_55 zf_X11_201 k_29 rfl (by decide) rfl ?_
      refine z_aload_n dX11_mend_58 rfl ?_
      refine n_getp (ji := 5) dX11_mend_59 zf_X11_41 k_1 rfl (by decide) rfl p_1_5 ?_
      refine z_iconst dX11_mend_62 ⟨by decide, by decide⟩ ?_
      refine n_vI (as := [(0, (-1))]) (rest := [(0, m3 29 3)]) dX11_mend_63 zm_X6_overlap zs_X11_192 k_23 (by decide) rfl rfl (Nat.le_of_ble_eq_true rfl) (Nat.le_of_ble_eq_true rfl) (h4.2 q6) (fun x9 m7 h8 => ?_)
      refine z_icmp_lt (tgt := 72) dX11_mend_66 (by decide) (fun q10 => ?_) (fun q11 => ?_)
      · refine z_aload_n dX11_mend_72 rfl ?_
        refine n_getp (ji := 4) dX11_mend_73 zf_X11_34 k_1 rfl (by decide) rfl p_1_4 ?_
        refine z_aload_n dX11_mend_76 rfl ?_
        refine n_getp (ji := 6) dX11_mend_77 zf_X11_50 k_1 rfl (by decide) rfl p_1_6 ?_
        refine n_getf (ji := 1) (t := 0) dX11_mend_80 zf_X11_198 k_29 rfl (by decide) rfl ?_
        refine z_aload_n dX11_mend_83 rfl ?_
        refine n_getp (ji := 6) dX11_mend_84 zf_X11_50 k_1 rfl (by decide) rfl p_1_6 ?_
        refine n_getf (ji := 2) (t := 0) dX11_mend_87 zf_X11_204 k_29 rfl (by decide) rfl ?_
        refine n_vN (as := [(0, m7 29 1), (0, m7 29 2)]) (rest := []) dX11_mend_90 zm_X3_swap zs_X11_188 k_21 (by decide) rfl rfl (Nat.le_of_ble_eq_true rfl) (Nat.le_of_ble_eq_true rfl) (h8.1 q10) (fun m12 h13 => ?_)
        refine z_aload_n dX11_mend_93 rfl ?_
        refine n_vN (as := []) (rest := []) dX11_mend_94 zm_X11_settle zs_X11_120 k_1 (by decide) rfl rfl (Nat.le_of_ble_eq_true rfl) (Nat.le_of_ble_eq_true rfl) h13 (fun m14 h15 => ?_)
        refine n_iinc (lo' := [some (2, 1), some (0, v1 + 1)]) dX11_mend_97 rfl (by decide) h15.1 rfl ?_
        refine z_goto (tgt := 22) dX11_mend_100 (by decide) ?_
        refine z_drop [some (2, 1), some (0, v1 + 1)] ⟨rfl, rfl, trivial⟩ ?_
        exact h15.2
      · refine z_goto (tgt := 103) dX11_mend_69 (by decide) ?_
        refine z_iload_n dX11_mend_103 rfl ?_
        exact z_ireturn dX11_mend_104 rfl rfl ⟨_, rfl, (h8.2 q11)⟩
set_option maxRecDepth 20000 in
theorem V_X11_seek  {μ : z_Mem} {d : Nat} {K : Int → z_Mem → Prop} (h : (¬ μ 6 2 = 0 → z_ci m_X5_find [(2, 31), (2, 6), (0, μ 21 1)] μ d (fun x5 m3 => (0 ≤ x5 → z_cn m_X2_remember [(2, 80), (2, 21)] m3 d (fun m8 => z_cn m_X11_settle [(2, 1)] (z_st m8 21 0 (m8 31 0)) d (fun m10 => K x5 m10))) ∧ (x5 < 0 → K x5 m3))) ∧ (μ 6 2 = 0 → K (-1) μ)) : z_ci m_X11_seek [(2, 1)] μ (d + 1) K := by
  show z_R m_X11_seek 0 [some (2, 1), none] [] z_n μ (d + 1) _
  refine z_aload_n dX11_seek_0 rfl ?_
  refine n_getp (ji := 3) dX11_seek_1 zf_X11_27 k_1 rfl (by decide) rfl p_1_3 ?_
  refine n_getf (ji := 2) (t := 0) dX11_seek_4 zf_X11_123 k_6 rfl (by decide) rfl ?_
  refine z_if_ne (tgt := 12) dX11_seek_7 (by decide) (fun q1 => ?_) (fun q2 => ?_)
  · refine z_aload_n dX11_seek_12 rfl ?_
    refine n_getp (ji := 7) dX11_seek_13 zf_X11_57 k_1 rfl (by decide) rfl p_1_7 ?_
    refine z_aload_n dX11_seek_16 rfl ?_
    refine n_getp (ji := 3) dX11_seek_17 zf_X11_27 k_1 rfl (by decide) rfl p_1_3 ?_
    refine z_aload_n dX11_seek_20 rfl ?_
    refine n_getp (ji := 4) dX11_seek_21 zf_X11_34 k_1 rfl (by decide) rfl p_1_4 ?_
    refine n_getf (ji := 1) (t := 0) dX11_seek_24 zf_X11_162 k_21 rfl (by decide) rfl ?_
    refine n_vI (as := [(2, 6), (0, μ 21 1)]) (rest := []) dX11_seek_27 zm_X5_find zs_X11_207 k_31 (by decide) rfl rfl (Nat.le_of_ble_eq_true rfl) (Nat.le_of_ble_eq_true rfl) (h.1 q1) (fun x5 m3 h4 => ?_)
    refine n_istore_n (lo' := [some (2, 1), some (0, x5)]) dX11_seek_30 ⟨Nat.le_of_ble_eq_true rfl, Nat.le_of_ble_eq_true rfl⟩ rfl ?_
    refine z_iload_n dX11_seek_31 rfl ?_
    refine z_if_ge (tgt := 37) dX11_seek_32 (by decide) (fun q6 => ?_) (fun q7 => ?_)
    · refine z_aload_n dX11_seek_37 rfl ?_
      refine n_getp (ji := 11) dX11_seek_38 zf_X11_85 k_1 rfl (by decide) rfl p_1_11 ?_
      refine z_aload_n dX11_seek_41 rfl ?_
      refine n_getp (ji := 4) dX11_seek_42 zf_X11_34 k_1 rfl (by decide) rfl p_1_4 ?_
      refine n_vN (as := [(2, 21)]) (rest := []) dX11_seek_45 zm_X2_remember zs_X11_145 k_80 (by decide) rfl rfl (Nat.le_of_ble_eq_true rfl) (Nat.le_of_ble_eq_true rfl) (h4.1 q6) (fun m8 h9 => ?_)
      refine z_aload_n dX11_seek_48 rfl ?_
      refine n_getp (ji := 4) dX11_seek_49 zf_X11_34 k_1 rfl (by decide) rfl p_1_4 ?_
      refine z_aload_n dX11_seek_52 rfl ?_
      refine n_getp (ji := 7) dX11_seek_53 zf_X11_57 k_1 rfl (by decide) rfl p_1_7 ?_
      refine n_getf (ji := 0) (t := 1) dX11_seek_56 zf_X11_211 k_31 rfl (by decide) rfl ?_
      refine n_putJ (ji := 0) dX11_seek_59 zf_X11_137 k_21 rfl (by decide) rfl ?_
      refine z_aload_n dX11_seek_62 rfl ?_
      refine n_vN (as := []) (rest := []) dX11_seek_63 zm_X11_settle zs_X11_120 k_1 (by decide) rfl rfl (Nat.le_of_ble_eq_true rfl) (Nat.le_of_ble_eq_true rfl) h9 (fun m10 h11 => ?_)
      refine z_iload_n dX11_seek_66 rfl ?_
      exact z_ireturn dX11_seek_67 rfl rfl ⟨_, rfl, h11⟩
    · refine z_iload_n dX11_seek_35 rfl ?_
      exact z_ireturn dX11_seek_36 rfl rfl ⟨_, rfl, (h4.2 q7)⟩
  · refine z_iconst dX11_seek_10 ⟨by decide, by decide⟩ ?_
    exact z_ireturn dX11_seek_11 rfl rfl ⟨_, rfl, (h.2 q2)⟩
set_option maxRecDepth 20000 in
theorem V_X11_undo  {μ : z_Mem} {d : Nat} {K : Int → z_Mem → Prop} (h : z_ci m_X2_bringBack [(2, 80), (2, 21)] μ d (fun x3 m1 => (¬ x3 = 0 → z_cn m_X11_settle [(2, 1)] m1 d (fun m6 => K (m6 80 0) m6)) ∧ (x3 = 0 → K (-1) m1))) : z_ci m_X11_undo [(2, 1)] μ (d + 1) K := by
  show z_R m_X11_undo 0 [some (2, 1)] [] z_n μ (d + 1) _
  refine z_aload_n dX11_undo_0 rfl ?_
  refine n_getp (ji := 11) dX11_undo_1 zf_X11_85 k_1 rfl (by decide) rfl p_1_11 ?_
  refine z_aload_n dX11_undo_4 rfl ?_
  refine n_getp (ji := 4) dX11_undo_5 zf_X11_34 k_1 rfl (by decide) rfl p_1_4 ?_
  refine n_vI (as := [(2, 21)]) (rest := []) dX11_undo_8 zm_X2_bringBack zs_X11_212 k_80 (by decide) rfl rfl (Nat.le_of_ble_eq_true rfl) (Nat.le_of_ble_eq_true rfl) h (fun x3 m1 h2 => ?_)
  refine z_if_ne (tgt := 16) dX11_undo_11 (by decide) (fun q4 => ?_) (fun q5 => ?_)
  · refine z_aload_n dX11_undo_16 rfl ?_
    refine n_vN (as := []) (rest := []) dX11_undo_17 zm_X11_settle zs_X11_120 k_1 (by decide) rfl rfl (Nat.le_of_ble_eq_true rfl) (Nat.le_of_ble_eq_true rfl) (h2.1 q4) (fun m6 h7 => ?_)
    refine z_aload_n dX11_undo_20 rfl ?_
    refine n_getp (ji := 11) dX11_undo_21 zf_X11_85 k_1 rfl (by decide) rfl p_1_11 ?_
    refine n_getf (ji := 0) (t := 0) dX11_undo_24 zf_X11_216 k_80 rfl (by decide) rfl ?_
    exact z_ireturn dX11_undo_27 rfl rfl ⟨_, rfl, h7⟩
  · refine z_iconst dX11_undo_14 ⟨by decide, by decide⟩ ?_
    exact z_ireturn dX11_undo_15 rfl rfl ⟨_, rfl, (h2.2 q5)⟩
set_option maxRecDepth 20000 in
theorem V_X11_keep {a : Int}  {μ : z_Mem} {d : Nat} {K : Int → z_Mem → Prop} (h : z_ci m_X11_isShelf [(2, 1), (0, a)] μ d (fun x3 m1 => (¬ x3 = 0 → z_ci m_X11_netFaces [(2, 1)] m1 d (fun x8 m6 => z_cn m_X8_draw [(2, 75), (2, 23), (0, x8)] m6 d (fun m9 => ((0 : Int) ≤ a ∧ a < 2) ∧ (z_cn m_X7_store [(2, (103 + 5 * a)), (2, 6), (2, 21), (2, 75)] m9 d (fun m11 => z_ci m_X3_howMany [(2, 21)] m11 d (fun x15 m13 => K x15 m13)))))) ∧ (x3 = 0 → K (-1) m1))) : z_ci m_X11_keep [(2, 1), (0, a)] μ (d + 1) K := by
  show z_R m_X11_keep 0 [some (2, 1), some (0, a)] [] z_n μ (d + 1) _
  refine z_aload_n dX11_keep_0 rfl ?_
  refine z_iload_n dX11_keep_1 rfl ?_
  refine n_vI (as := [(0, a)]) (rest := []) dX11_keep_2 zm_X11_isShelf zs_X11_219 k_1 (by decide) rfl rfl (Nat.le_of_ble_eq_true rfl) (Nat.le_of_ble_eq_true rfl) h (fun x3 m1 h2 => ?_)
  refine z_if_ne (tgt := 10) dX11_keep_5 (by decide) (fun q4 => ?_) (fun q5 => ?_)
  · refine z_aload_n dX11_keep_10 rfl ?_
    refine n_getp (ji := 10) dX11_keep_11 zf_X11_78 k_1 rfl (by decide) rfl p_1_10 ?_
    refine z_aload_n dX11_keep_14 rfl ?_
    refine n_getp (ji := 5) dX11_keep_15 zf_X11_41 k_1 rfl (by decide) rfl p_1_5 ?_
    refine z_aload_n dX11_keep_18 rfl ?_
    refine n_vI (as := []) (rest := [(2, 23), (2, 75)]) dX11_keep_19 zm_X11_netFaces zs_X11_222 k_1 (by decide) rfl rfl (Nat.le_of_ble_eq_true rfl) (Nat.le_of_ble_eq_true rfl) (h2.1 q4) (fun x8 m6 h7 => ?_)
    refine n_vN (as := [(2, 23), (0, x8)]) (rest := []) dX11_keep_22 zm_X8_draw zs_X11_225 k_75 (by decide) rfl rfl (Nat.le_of_ble_eq_true rfl) (Nat.le_of_ble_eq_true rfl) h7 (fun m9 h10 => ?_)
    refine z_aload_n dX11_keep_25 rfl ?_
    refine n_getp (ji := 12) dX11_keep_26 zf_X11_91 k_1 rfl (by decide) rfl p_1_12 ?_
    refine z_iload_n dX11_keep_29 rfl ?_
    refine n_aaldS dX11_keep_30 k_102 h10.1 (r_102_p h10.1) ?_
    refine z_aload_n dX11_keep_31 rfl ?_
    refine n_getp (ji := 3) dX11_keep_32 zf_X11_27 k_1 rfl (by decide) rfl p_1_3 ?_
    refine z_aload_n dX11_keep_35 rfl ?_
    refine n_getp (ji := 4) dX11_keep_36 zf_X11_34 k_1 rfl (by decide) rfl p_1_4 ?_
    refine z_aload_n dX11_keep_39 rfl ?_
    refine n_getp (ji := 10) dX11_keep_40 zf_X11_78 k_1 rfl (by decide) rfl p_1_10 ?_
    refine n_vN (as := [(2, 6), (2, 21), (2, 75)]) (rest := []) dX11_keep_43 zm_X7_store zs_X11_229 (r_102_k h10.1) (by decide) rfl rfl (Nat.le_of_ble_eq_true rfl) (Nat.le_of_ble_eq_true rfl) h10.2 (fun m11 h12 => ?_)
    refine z_aload_n dX11_keep_46 rfl ?_
    refine n_getp (ji := 4) dX11_keep_47 zf_X11_34 k_1 rfl (by decide) rfl p_1_4 ?_
    refine n_vI (as := []) (rest := []) dX11_keep_50 zm_X3_howMany zs_X11_152 k_21 (by decide) rfl rfl (Nat.le_of_ble_eq_true rfl) (Nat.le_of_ble_eq_true rfl) h12 (fun x15 m13 h14 => ?_)
    exact z_ireturn dX11_keep_53 rfl rfl ⟨_, rfl, h14⟩
  · refine z_iconst dX11_keep_8 ⟨by decide, by decide⟩ ?_
    exact z_ireturn dX11_keep_9 rfl rfl ⟨_, rfl, (h2.2 q5)⟩
set_option maxRecDepth 20000 in
theorem V_X11_back {a : Int}  {μ : z_Mem} {d : Nat} {K : Int → z_Mem → Prop} (h : z_ci m_X11_isShelf [(2, 1), (0, a)] μ d (fun x3 m1 => (¬ x3 = 0 → ((0 : Int) ≤ a ∧ a < 2) ∧ ((¬ m1 (103 + 5 * a) 0 = 0 → z_cn m_X9_make [(2, 6), (2, ((103 + 5 * a) + 1)), (0, m1 (103 + 5 * a) 1)] m1 d (fun m8 => z_cn m_X3_copy [(2, 21), (2, ((103 + 5 * a) + 2))] m8 d (fun m10 => z_cn m_X2_forget [(2, 80)] m10 d (fun m12 => z_cn m_X11_settle [(2, 1)] m12 d (fun m14 => z_ci m_X3_howMany [(2, 21)] m14 d (fun x18 m16 => K x18 m16)))))) ∧ (m1 (103 + 5 * a) 0 = 0 → K (-2) m1))) ∧ (x3 = 0 → K (-1) m1))) : z_ci m_X11_back [(2, 1), (0, a)] μ (d + 1) K := by
  show z_R m_X11_back 0 [some (2, 1), some (0, a), none] [] z_n μ (d + 1) _
  refine z_aload_n dX11_back_0 rfl ?_
  refine z_iload_n dX11_back_1 rfl ?_
  refine n_vI (as := [(0, a)]) (rest := []) dX11_back_2 zm_X11_isShelf zs_X11_219 k_1 (by decide) rfl rfl (Nat.le_of_ble_eq_true rfl) (Nat.le_of_ble_eq_true rfl) h (fun x3 m1 h2 => ?_)
  refine z_if_ne (tgt := 10) dX11_back_5 (by decide) (fun q4 => ?_) (fun q5 => ?_)
  · refine z_aload_n dX11_back_10 rfl ?_
    refine n_getp (ji := 12) dX11_back_11 zf_X11_91 k_1 rfl (by decide) rfl p_1_12 ?_
    refine z_iload_n dX11_back_14 rfl ?_
    refine n_aaldS dX11_back_15 k_102 (h2.1 q4).1 (r_102_p (h2.1 q4).1) ?_
    refine n_astore_n (lo' := [some (2, 1), some (0, a), some (2, (103 + 5 * a))]) dX11_back_16 (z_nz (r_102_k (h2.1 q4).1)) ⟨Nat.le_of_ble_eq_true rfl, Nat.le_of_ble_eq_true rfl⟩ rfl ?_
    refine z_aload_n dX11_back_17 rfl ?_
    refine n_getf (ji := 0) (t := 0) dX11_back_18 zf_X11_233 (r_102_k (h2.1 q4).1) rfl (by decide) rfl ?_
    refine z_if_ne (tgt := 27) dX11_back_21 (by decide) (fun q6 => ?_) (fun q7 => ?_)
    · refine z_aload_n dX11_back_27 rfl ?_
      refine n_getp (ji := 3) dX11_back_28 zf_X11_27 k_1 rfl (by decide) rfl p_1_3 ?_
      refine z_aload_n dX11_back_31 rfl ?_
      refine n_getp (ji := 2) dX11_back_32 zf_X11_237 (r_102_k (h2.1 q4).1) rfl (by decide) rfl (s_7_2_p (r_102_k (h2.1 q4).1)) ?_
      refine z_aload_n dX11_back_35 rfl ?_
      refine n_getf (ji := 1) (t := 0) dX11_back_36 zf_X11_238 (r_102_k (h2.1 q4).1) rfl (by decide) rfl ?_
      refine n_vN (as := [(2, ((103 + 5 * a) + 1)), (0, m1 (103 + 5 * a) 1)]) (rest := []) dX11_back_39 zm_X9_make zs_X11_110 k_6 (by decide) rfl rfl (Nat.le_of_ble_eq_true rfl) (Nat.le_of_ble_eq_true rfl) ((h2.1 q4).2.1 q6) (fun m8 h9 => ?_)
      refine z_aload_n dX11_back_42 rfl ?_
      refine n_getp (ji := 4) dX11_back_43 zf_X11_34 k_1 rfl (by decide) rfl p_1_4 ?_
      refine z_aload_n dX11_back_46 rfl ?_
      refine n_getp (ji := 3) dX11_back_47 zf_X11_239 (r_102_k (h2.1 q4).1) rfl (by decide) rfl (s_7_3_p (r_102_k (h2.1 q4).1)) ?_
      refine n_vN (as := [(2, ((103 + 5 * a) + 2))]) (rest := []) dX11_back_50 zm_X3_copy zs_X11_240 k_21 (by decide) rfl rfl (Nat.le_of_ble_eq_true rfl) (Nat.le_of_ble_eq_true rfl) h9 (fun m10 h11 => ?_)
      refine z_aload_n dX11_back_53 rfl ?_
      refine n_getp (ji := 11) dX11_back_54 zf_X11_85 k_1 rfl (by decide) rfl p_1_11 ?_
      refine n_vN (as := []) (rest := []) dX11_back_57 zm_X2_forget zs_X11_117 k_80 (by decide) rfl rfl (Nat.le_of_ble_eq_true rfl) (Nat.le_of_ble_eq_true rfl) h11 (fun m12 h13 => ?_)
      refine z_aload_n dX11_back_60 rfl ?_
      refine n_vN (as := []) (rest := []) dX11_back_61 zm_X11_settle zs_X11_120 k_1 (by decide) rfl rfl (Nat.le_of_ble_eq_true rfl) (Nat.le_of_ble_eq_true rfl) h13 (fun m14 h15 => ?_)
      refine z_aload_n dX11_back_64 rfl ?_
      refine n_getp (ji := 4) dX11_back_65 zf_X11_34 k_1 rfl (by decide) rfl p_1_4 ?_
      refine n_vI (as := []) (rest := []) dX11_back_68 zm_X3_howMany zs_X11_152 k_21 (by decide) rfl rfl (Nat.le_of_ble_eq_true rfl) (Nat.le_of_ble_eq_true rfl) h15 (fun x18 m16 h17 => ?_)
      exact z_ireturn dX11_back_71 rfl rfl ⟨_, rfl, h17⟩
    · refine z_bipush dX11_back_24 (by decide) ?_
      exact z_ireturn dX11_back_26 rfl rfl ⟨_, rfl, ((h2.1 q4).2.2 q7)⟩
  · refine z_iconst dX11_back_8 ⟨by decide, by decide⟩ ?_
    exact z_ireturn dX11_back_9 rfl rfl ⟨_, rfl, (h2.2 q5)⟩
set_option maxRecDepth 20000 in
theorem V_X11_face {a b : Int}  {μ : z_Mem} {d : Nat} {K : Int → z_Mem → Prop} (h : z_ci m_X11_isFace [(2, 1), (0, a)] μ d (fun x3 m1 => (¬ x3 = 0 → (b = 0 → ((0 : Int) ≤ a ∧ a < 30) ∧ (K (m1 9 a) m1)) ∧ (b = 1 → ((0 : Int) ≤ a ∧ a < 30) ∧ (K (m1 10 a) m1)) ∧ (b = 2 → z_ci m_X11_hingesOf [(2, 1), (0, a)] m1 d (fun x12 m10 => K x12 m10)) ∧ (b = 3 → z_ci m_X6_holds [(2, 23), (0, a)] m1 d (fun x15 m13 => (x15 = 0 → K 0 m13) ∧ (¬ x15 = 0 → K 1 m13))) ∧ (b < 0 ∨ 3 < b → K (-1) m1)) ∧ (x3 = 0 → K (-1) m1))) : z_ci m_X11_face [(2, 1), (0, a), (0, b)] μ (d + 1) K := by
  show z_R m_X11_face 0 [some (2, 1), some (0, a), some (0, b)] [] z_n μ (d + 1) _
  refine z_aload_n dX11_face_0 rfl ?_
  refine z_iload_n dX11_face_1 rfl ?_
  refine n_vI (as := [(0, a)]) (rest := []) dX11_face_2 zm_X11_isFace zs_X11_159 k_1 (by decide) rfl rfl (Nat.le_of_ble_eq_true rfl) (Nat.le_of_ble_eq_true rfl) h (fun x3 m1 h2 => ?_)
  refine z_if_ne (tgt := 10) dX11_face_5 (by decide) (fun q4 => ?_) (fun q5 => ?_)
  · refine z_iload_n dX11_face_10 rfl ?_
    refine z_table dX11_face_11 [40, 50, 60, 66] 83 (by decide) (by decide) (by decide) (fun i6 q7 q8 => ?_) (fun q9 => ?_)
    · match i6, q7, q8 with
      | 0, _, q8 =>
        refine z_aload_n dX11_face_40 rfl ?_
        refine n_getp (ji := 3) dX11_face_41 zf_X11_27 k_1 rfl (by decide) rfl p_1_3 ?_
        refine n_getp (ji := 4) dX11_face_44 zf_X11_243 k_6 rfl (by decide) rfl p_6_4 ?_
        refine z_iload_n dX11_face_47 rfl ?_
        refine n_iald dX11_face_48 k_9 ((h2.1 q4).1 (by simpa using q8)).1 ?_
        exact z_ireturn dX11_face_49 rfl rfl ⟨_, rfl, ((h2.1 q4).1 (by simpa using q8)).2⟩
      | 1, _, q8 =>
        refine z_aload_n dX11_face_50 rfl ?_
        refine n_getp (ji := 3) dX11_face_51 zf_X11_27 k_1 rfl (by decide) rfl p_1_3 ?_
        refine n_getp (ji := 5) dX11_face_54 zf_X11_246 k_6 rfl (by decide) rfl p_6_5 ?_
        refine z_iload_n dX11_face_57 rfl ?_
        refine n_iald dX11_face_58 k_10 ((h2.1 q4).2.1 (by simpa using q8)).1 ?_
        exact z_ireturn dX11_face_59 rfl rfl ⟨_, rfl, ((h2.1 q4).2.1 (by simpa using q8)).2⟩
      | 2, _, q8 =>
        refine z_aload_n dX11_face_60 rfl ?_
        refine z_iload_n dX11_face_61 rfl ?_
        refine n_vI (as := [(0, a)]) (rest := []) dX11_face_62 zm_X11_hingesOf zs_X11_249 k_1 (by decide) rfl rfl (Nat.le_of_ble_eq_true rfl) (Nat.le_of_ble_eq_true rfl) ((h2.1 q4).2.2.1 (by simpa using q8)) (fun x12 m10 h11 => ?_)
        exact z_ireturn dX11_face_65 rfl rfl ⟨_, rfl, h11⟩
      | 3, _, q8 =>
        refine z_aload_n dX11_face_66 rfl ?_
        refine n_getp (ji := 5) dX11_face_67 zf_X11_41 k_1 rfl (by decide) rfl p_1_5 ?_
        refine z_iload_n dX11_face_70 rfl ?_
        refine n_vI (as := [(0, a)]) (rest := []) dX11_face_71 zm_X6_holds zs_X11_252 k_23 (by decide) rfl rfl (Nat.le_of_ble_eq_true rfl) (Nat.le_of_ble_eq_true rfl) ((h2.1 q4).2.2.2.1 (by simpa using q8)) (fun x15 m13 h14 => ?_)
        refine z_if_eq (tgt := 81) dX11_face_74 (by decide) (fun q16 => ?_) (fun q17 => ?_)
        · refine z_iconst dX11_face_81 ⟨by decide, by decide⟩ ?_
          exact z_ireturn dX11_face_82 rfl rfl ⟨_, rfl, (h14.1 q16)⟩
        · refine z_iconst dX11_face_77 ⟨by decide, by decide⟩ ?_
          refine z_goto (tgt := 82) dX11_face_78 (by decide) ?_
          exact z_ireturn dX11_face_82 rfl rfl ⟨_, rfl, (h14.2 q17)⟩
      | i6 + 4, q7, _ => exact absurd q7 (by simp)
    · refine z_iconst dX11_face_83 ⟨by decide, by decide⟩ ?_
      exact z_ireturn dX11_face_84 rfl rfl ⟨_, rfl, ((h2.1 q4).2.2.2.2 q9)⟩
  · refine z_iconst dX11_face_8 ⟨by decide, by decide⟩ ?_
    exact z_ireturn dX11_face_9 rfl rfl ⟨_, rfl, (h2.2 q5)⟩
set_option maxRecDepth 20000 in
theorem V_X11_hingesOf {a : Int}  {μ : z_Mem} {d : Nat} {K : Int → z_Mem → Prop} (h : z_ri m_X11_hingesOf 4 [some (2, 1), some (0, a), some (0, 0), some (0, 0)] μ (d + 1) K) : z_ci m_X11_hingesOf [(2, 1), (0, a)] μ (d + 1) K := by
  show z_R m_X11_hingesOf 0 [some (2, 1), some (0, a), none, none] [] z_n μ (d + 1) _
  refine z_iconst dX11_hingesOf_0 ⟨by decide, by decide⟩ ?_
  refine n_istore_n (lo' := [some (2, 1), some (0, a), some (0, 0), none]) dX11_hingesOf_1 ⟨Nat.le_of_ble_eq_true rfl, Nat.le_of_ble_eq_true rfl⟩ rfl ?_
  refine z_iconst dX11_hingesOf_2 ⟨by decide, by decide⟩ ?_
  refine n_istore_n (lo' := [some (2, 1), some (0, a), some (0, 0), some (0, 0)]) dX11_hingesOf_3 ⟨Nat.le_of_ble_eq_true rfl, Nat.le_of_ble_eq_true rfl⟩ rfl ?_
  refine z_drop [some (2, 1), some (0, a), some (0, 0), some (0, 0)] ⟨rfl, rfl, rfl, rfl, trivial⟩ ?_
  exact h
set_option maxRecDepth 20000 in
theorem V_X11_hingesOf_4 {v1 v2 v3 : Int}  {μ : z_Mem} {d : Nat} {K : Int → z_Mem → Prop} (h : (4 ≤ v3 → K v2 μ) ∧ (v3 < 4 → z_I (4 * v1) ∧ (z_I ((4 * v1) + v3) ∧ (((0 : Int) ≤ (4 * v1) + v3 ∧ (4 * v1) + v3 < 120) ∧ (z_ci m_X3_isHinge [(2, 21), (0, μ 12 ((4 * v1) + v3))] μ d (fun x5 m3 => (x5 = 0 → z_I (v3 + 1) ∧ (z_ri m_X11_hingesOf 4 [some (2, 1), some (0, v1), some (0, v2), some (0, v3 + 1)] m3 (d + 1) K)) ∧ (¬ x5 = 0 → z_I (v2 + 1) ∧ (z_I (v3 + 1) ∧ (z_ri m_X11_hingesOf 4 [some (2, 1), some (0, v1), some (0, v2 + 1), some (0, v3 + 1)] m3 (d + 1) K))))))))) : z_ri m_X11_hingesOf 4 [some (2, 1), some (0, v1), some (0, v2), some (0, v3)] μ (d + 1) K := by
  show z_R m_X11_hingesOf 4 [some (2, 1), some (0, v1), some (0, v2), some (0, v3)] [] z_n μ (d + 1) _
  refine z_iload_n dX11_hingesOf_4 rfl ?_
  refine z_iconst dX11_hingesOf_5 ⟨by decide, by decide⟩ ?_
  refine z_icmp_ge (tgt := 41) dX11_hingesOf_6 (by decide) (fun q1 => ?_) (fun q2 => ?_)
  · refine z_iload_n dX11_hingesOf_41 rfl ?_
    exact z_ireturn dX11_hingesOf_42 rfl rfl ⟨_, rfl, (h.1 q1)⟩
  · refine z_aload_n dX11_hingesOf_9 rfl ?_
    refine n_getp (ji := 4) dX11_hingesOf_10 zf_X11_34 k_1 rfl (by decide) rfl p_1_4 ?_
    refine z_aload_n dX11_hingesOf_13 rfl ?_
    refine n_getp (ji := 3) dX11_hingesOf_14 zf_X11_27 k_1 rfl (by decide) rfl p_1_3 ?_
    refine n_getp (ji := 7) dX11_hingesOf_17 zf_X11_255 k_6 rfl (by decide) rfl p_6_7 ?_
    refine z_iconst dX11_hingesOf_20 ⟨by decide, by decide⟩ ?_
    refine z_iload_n dX11_hingesOf_21 rfl ?_
    refine z_imul dX11_hingesOf_22 (h.2 q2).1 ?_
    refine z_iload_n dX11_hingesOf_23 rfl ?_
    refine z_iadd dX11_hingesOf_24 (h.2 q2).2.1 ?_
    refine n_iald dX11_hingesOf_25 k_12 (h.2 q2).2.2.1 ?_
    refine n_vI (as := [(0, μ 12 ((4 * v1) + v3))]) (rest := []) dX11_hingesOf_26 zm_X3_isHinge zs_X11_130 k_21 (by decide) rfl rfl (Nat.le_of_ble_eq_true rfl) (Nat.le_of_ble_eq_true rfl) (h.2 q2).2.2.2 (fun x5 m3 h4 => ?_)
    refine z_if_eq (tgt := 35) dX11_hingesOf_29 (by decide) (fun q6 => ?_) (fun q7 => ?_)
    · refine n_iinc (lo' := [some (2, 1), some (0, v1), some (0, v2), some (0, v3 + 1)]) dX11_hingesOf_35 rfl (by decide) (h4.1 q6).1 rfl ?_
      refine z_goto (tgt := 4) dX11_hingesOf_38 (by decide) ?_
      refine z_drop [some (2, 1), some (0, v1), some (0, v2), some (0, v3 + 1)] ⟨rfl, rfl, rfl, rfl, trivial⟩ ?_
      exact (h4.1 q6).2
    · refine n_iinc (lo' := [some (2, 1), some (0, v1), some (0, v2 + 1), some (0, v3)]) dX11_hingesOf_32 rfl (by decide) (h4.2 q7).1 rfl ?_
      refine n_iinc (lo' := [some (2, 1), some (0, v1), some (0, v2 + 1), some (0, v3 + 1)]) dX11_hingesOf_35 rfl (by decide) (h4.2 q7).2.1 rfl ?_
      refine z_goto (tgt := 4) dX11_hingesOf_38 (by decide) ?_
      refine z_drop [some (2, 1), some (0, v1), some (0, v2 + 1), some (0, v3 + 1)] ⟨rfl, rfl, rfl, rfl, trivial⟩ ?_
      exact (h4.2 q7).2.2
set_option maxRecDepth 20000 in
theorem V_X11_side {a b c : Int}  {μ : z_Mem} {d : Nat} {K : Int → z_Mem → Prop} (h : z_ci m_X11_isFace [(2, 1), (0, a)] μ d (fun x3 m1 => (x3 = 0 → K (-1) m1) ∧ (¬ x3 = 0 → (b < 0 → K (-1) m1) ∧ (0 ≤ b → (b ≤ 3 → z_I (4 * a) ∧ (z_I ((4 * a) + b) ∧ ((c = 0 → ((0 : Int) ≤ (4 * a) + b ∧ (4 * a) + b < 120) ∧ (K (m1 12 ((4 * a) + b)) m1)) ∧ (c = 1 → ((0 : Int) ≤ (4 * a) + b ∧ (4 * a) + b < 120) ∧ (K ((m1 11 ((4 * a) + b)) / 4) m1)) ∧ (c = 2 → ((0 : Int) ≤ (4 * a) + b ∧ (4 * a) + b < 120) ∧ (K ((m1 11 ((4 * a) + b)) % 4) m1)) ∧ (c < 0 ∨ 2 < c → K (-1) m1)))) ∧ (3 < b → K (-1) m1))))) : z_ci m_X11_side [(2, 1), (0, a), (0, b), (0, c)] μ (d + 1) K := by
  show z_R m_X11_side 0 [some (2, 1), some (0, a), some (0, b), some (0, c), none] [] z_n μ (d + 1) _
  refine z_aload_n dX11_side_0 rfl ?_
  refine z_iload_n dX11_side_1 rfl ?_
  refine n_vI (as := [(0, a)]) (rest := []) dX11_side_2 zm_X11_isFace zs_X11_159 k_1 (by decide) rfl rfl (Nat.le_of_ble_eq_true rfl) (Nat.le_of_ble_eq_true rfl) h (fun x3 m1 h2 => ?_)
  refine z_if_eq (tgt := 17) dX11_side_5 (by decide) (fun q4 => ?_) (fun q5 => ?_)
  · refine z_iconst dX11_side_17 ⟨by decide, by decide⟩ ?_
    exact z_ireturn dX11_side_18 rfl rfl ⟨_, rfl, (h2.1 q4)⟩
  · refine z_iload_n dX11_side_8 rfl ?_
    refine z_if_lt (tgt := 17) dX11_side_9 (by decide) (fun q6 => ?_) (fun q7 => ?_)
    · refine z_iconst dX11_side_17 ⟨by decide, by decide⟩ ?_
      exact z_ireturn dX11_side_18 rfl rfl ⟨_, rfl, ((h2.2 q5).1 q6)⟩
    · refine z_iload_n dX11_side_12 rfl ?_
      refine z_iconst dX11_side_13 ⟨by decide, by decide⟩ ?_
      refine z_icmp_le (tgt := 19) dX11_side_14 (by decide) (fun q8 => ?_) (fun q9 => ?_)
      · refine z_iconst dX11_side_19 ⟨by decide, by decide⟩ ?_
        refine z_iload_n dX11_side_20 rfl ?_
        refine z_imul dX11_side_21 (((h2.2 q5).2 q7).1 q8).1 ?_
        refine z_iload_n dX11_side_22 rfl ?_
        refine z_iadd dX11_side_23 (((h2.2 q5).2 q7).1 q8).2.1 ?_
        refine n_istore (lo' := [some (2, 1), some (0, a), some (0, b), some (0, c), some (0, (4 * a) + b)]) dX11_side_24 ⟨Nat.le_of_ble_eq_true rfl, Nat.le_of_ble_eq_true rfl⟩ rfl ?_
        refine z_iload_n dX11_side_26 rfl ?_
        refine z_table dX11_side_27 [52, 63, 76] 89 (by decide) (by decide) (by decide) (fun i10 q11 q12 => ?_) (fun q13 => ?_)
        · match i10, q11, q12 with
          | 0, _, q12 =>
            refine z_aload_n dX11_side_52 rfl ?_
            refine n_getp (ji := 3) dX11_side_53 zf_X11_27 k_1 rfl (by decide) rfl p_1_3 ?_
            refine n_getp (ji := 7) dX11_side_56 zf_X11_255 k_6 rfl (by decide) rfl p_6_7 ?_
            refine z_iload dX11_side_59 rfl ?_
            refine n_iald dX11_side_61 k_12 ((((h2.2 q5).2 q7).1 q8).2.2.1 (by simpa using q12)).1 ?_
            exact z_ireturn dX11_side_62 rfl rfl ⟨_, rfl, ((((h2.2 q5).2 q7).1 q8).2.2.1 (by simpa using q12)).2⟩
          | 1, _, q12 =>
            refine z_aload_n dX11_side_63 rfl ?_
            refine n_getp (ji := 3) dX11_side_64 zf_X11_27 k_1 rfl (by decide) rfl p_1_3 ?_
            refine n_getp (ji := 6) dX11_side_67 zf_X11_258 k_6 rfl (by decide) rfl p_6_6 ?_
            refine z_iload dX11_side_70 rfl ?_
            refine n_iald dX11_side_72 k_11 ((((h2.2 q5).2 q7).1 q8).2.2.2.1 (by simpa using q12)).1 ?_
            refine z_iconst dX11_side_73 ⟨by decide, by decide⟩ ?_
            refine n_ishr (m := 4) dX11_side_74 (by decide) (by decide) ?_
            exact z_ireturn dX11_side_75 rfl rfl ⟨_, rfl, ((((h2.2 q5).2 q7).1 q8).2.2.2.1 (by simpa using q12)).2⟩
          | 2, _, q12 =>
            refine z_aload_n dX11_side_76 rfl ?_
            refine n_getp (ji := 3) dX11_side_77 zf_X11_27 k_1 rfl (by decide) rfl p_1_3 ?_
            refine n_getp (ji := 6) dX11_side_80 zf_X11_258 k_6 rfl (by decide) rfl p_6_6 ?_
            refine z_iload dX11_side_83 rfl ?_
            refine n_iald dX11_side_85 k_11 ((((h2.2 q5).2 q7).1 q8).2.2.2.2.1 (by simpa using q12)).1 ?_
            refine z_iconst dX11_side_86 ⟨by decide, by decide⟩ ?_
            refine n_iandm (k := 2) (m := 4) dX11_side_87 (by decide) (by decide) ?_
            exact z_ireturn dX11_side_88 rfl rfl ⟨_, rfl, ((((h2.2 q5).2 q7).1 q8).2.2.2.2.1 (by simpa using q12)).2⟩
          | i10 + 3, q11, _ => exact absurd q11 (by simp)
        · refine z_iconst dX11_side_89 ⟨by decide, by decide⟩ ?_
          exact z_ireturn dX11_side_90 rfl rfl ⟨_, rfl, ((((h2.2 q5).2 q7).1 q8).2.2.2.2.2 q13)⟩
      · refine z_iconst dX11_side_17 ⟨by decide, by decide⟩ ?_
        exact z_ireturn dX11_side_18 rfl rfl ⟨_, rfl, (((h2.2 q5).2 q7).2 q9)⟩
set_option maxRecDepth 20000 in
theorem V_X11_edge {a b : Int}  {μ : z_Mem} {d : Nat} {K : Int → z_Mem → Prop} (h : z_ci m_X11_isEdge [(2, 1), (0, a)] μ d (fun x3 m1 => (¬ x3 = 0 → (b = 0 → z_ci m_X9_faceOf [(2, 6), (0, a), (0, b)] m1 d (fun x12 m10 => K x12 m10)) ∧ (b = 1 → z_ci m_X9_faceOf [(2, 6), (0, a), (0, b)] m1 d (fun x15 m13 => K x15 m13)) ∧ (b = 2 → z_I (2 * a) ∧ (z_I ((2 * a) + b) ∧ (z_I (((2 * a) + b) - 2) ∧ (((0 : Int) ≤ ((2 * a) + b) - 2 ∧ ((2 * a) + b) - 2 < 120) ∧ (K ((m1 13 (((2 * a) + b) - 2)) % 4) m1))))) ∧ (b = 3 → z_I (2 * a) ∧ (z_I ((2 * a) + b) ∧ (z_I (((2 * a) + b) - 2) ∧ (((0 : Int) ≤ ((2 * a) + b) - 2 ∧ ((2 * a) + b) - 2 < 120) ∧ (K ((m1 13 (((2 * a) + b) - 2)) % 4) m1))))) ∧ (b = 4 → ((0 : Int) ≤ a ∧ a < 60) ∧ (K (m1 14 a) m1)) ∧ (b = 5 → ((0 : Int) ≤ a ∧ a < 60) ∧ (K (m1 22 a) m1)) ∧ (b = 6 → z_ci m_X3_isHinge [(2, 21), (0, a)] m1 d (fun x18 m16 => (x18 = 0 → K 0 m16) ∧ (¬ x18 = 0 → K 1 m16))) ∧ (b = 7 → z_ci m_X11_isFree [(2, 1), (0, a)] m1 d (fun x23 m21 => (x23 = 0 → K 0 m21) ∧ (¬ x23 = 0 → K 1 m21))) ∧ (b < 0 ∨ 7 < b → K (-1) m1)) ∧ (x3 = 0 → K (-1) m1))) : z_ci m_X11_edge [(2, 1), (0, a), (0, b)] μ (d + 1) K := by
  show z_R m_X11_edge 0 [some (2, 1), some (0, a), some (0, b)] [] z_n μ (d + 1) _
  refine z_aload_n dX11_edge_0 rfl ?_
  refine z_iload_n dX11_edge_1 rfl ?_
  refine n_vI (as := [(0, a)]) (rest := []) dX11_edge_2 zm_X11_isEdge zs_X11_126 k_1 (by decide) rfl rfl (Nat.le_of_ble_eq_true rfl) (Nat.le_of_ble_eq_true rfl) h (fun x3 m1 h2 => ?_)
  refine z_if_ne (tgt := 10) dX11_edge_5 (by decide) (fun q4 => ?_) (fun q5 => ?_)
  · refine z_iload_n dX11_edge_10 rfl ?_
    refine z_table dX11_edge_11 [56, 56, 66, 66, 84, 94, 104, 121] 135 (by decide) (by decide) (by decide) (fun i6 q7 q8 => ?_) (fun q9 => ?_)
    · match i6, q7, q8 with
      | 0, _, q8 =>
        refine z_aload_n dX11_edge_56 rfl ?_
        refine n_getp (ji := 3) dX11_edge_57 zf_X11_27 k_1 rfl (by decide) rfl p_1_3 ?_
        refine z_iload_n dX11_edge_60 rfl ?_
        refine z_iload_n dX11_edge_61 rfl ?_
        refine n_vI (as := [(0, a), (0, b)]) (rest := []) dX11_edge_62 zm_X9_faceOf zs_X11_133 k_6 (by decide) rfl rfl (Nat.le_of_ble_eq_true rfl) (Nat.le_of_ble_eq_true rfl) ((h2.1 q4).1 (by simpa using q8)) (fun x12 m10 h11 => ?_)
        exact z_ireturn dX11_edge_65 rfl rfl ⟨_, rfl, h11⟩
      | 1, _, q8 =>
        refine z_aload_n dX11_edge_56 rfl ?_
        refine n_getp (ji := 3) dX11_edge_57 zf_X11_27 k_1 rfl (by decide) rfl p_1_3 ?_
        refine z_iload_n dX11_edge_60 rfl ?_
        refine z_iload_n dX11_edge_61 rfl ?_
        refine n_vI (as := [(0, a), (0, b)]) (rest := []) dX11_edge_62 zm_X9_faceOf zs_X11_133 k_6 (by decide) rfl rfl (Nat.le_of_ble_eq_true rfl) (Nat.le_of_ble_eq_true rfl) ((h2.1 q4).2.1 (by simpa using q8)) (fun x15 m13 h14 => ?_)
        exact z_ireturn dX11_edge_65 rfl rfl ⟨_, rfl, h14⟩
      | 2, _, q8 =>
        refine z_aload_n dX11_edge_66 rfl ?_
        refine n_getp (ji := 3) dX11_edge_67 zf_X11_27 k_1 rfl (by decide) rfl p_1_3 ?_
        refine n_getp (ji := 9) dX11_edge_70 zf_X11_261 k_6 rfl (by decide) rfl p_6_9 ?_
        refine z_iconst dX11_edge_73 ⟨by decide, by decide⟩ ?_
        refine z_iload_n dX11_edge_74 rfl ?_
        refine z_imul dX11_edge_75 ((h2.1 q4).2.2.1 (by simpa using q8)).1 ?_
        refine z_iload_n dX11_edge_76 rfl ?_
        refine z_iadd dX11_edge_77 ((h2.1 q4).2.2.1 (by simpa using q8)).2.1 ?_
        refine z_iconst dX11_edge_78 ⟨by decide, by decide⟩ ?_
        refine z_isub dX11_edge_79 ((h2.1 q4).2.2.1 (by simpa using q8)).2.2.1 ?_
        refine n_iald dX11_edge_80 k_13 ((h2.1 q4).2.2.1 (by simpa using q8)).2.2.2.1 ?_
        refine z_iconst dX11_edge_81 ⟨by decide, by decide⟩ ?_
        refine n_iandm (k := 2) (m := 4) dX11_edge_82 (by decide) (by decide) ?_
        exact z_ireturn dX11_edge_83 rfl rfl ⟨_, rfl, ((h2.1 q4).2.2.1 (by simpa using q8)).2.2.2.2⟩
      | 3, _, q8 =>
        refine z_aload_n dX11_edge_66 rfl ?_
        refine n_getp (ji := 3) dX11_edge_67 zf_X11_27 k_1 rfl (by decide) rfl p_1_3 ?_
        refine n_getp (ji := 9) dX11_edge_70 zf_X11_261 k_6 rfl (by decide) rfl p_6_9 ?_
        refine z_iconst dX11_edge_73 ⟨by decide, by decide⟩ ?_
        refine z_iload_n dX11_edge_74 rfl ?_
        refine z_imul dX11_edge_75 ((h2.1 q4).2.2.2.1 (by simpa using q8)).1 ?_
        refine z_iload_n dX11_edge_76 rfl ?_
        refine z_iadd dX11_edge_77 ((h2.1 q4).2.2.2.1 (by simpa using q8)).2.1 ?_
        refine z_iconst dX11_edge_78 ⟨by decide, by decide⟩ ?_
        refine z_isub dX11_edge_79 ((h2.1 q4).2.2.2.1 (by simpa using q8)).2.2.1 ?_
        refine n_iald dX11_edge_80 k_13 ((h2.1 q4).2.2.2.1 (by simpa using q8)).2.2.2.1 ?_
        refine z_iconst dX11_edge_81 ⟨by decide, by decide⟩ ?_
        refine n_iandm (k := 2) (m := 4) dX11_edge_82 (by decide) (by decide) ?_
        exact z_ireturn dX11_edge_83 rfl rfl ⟨_, rfl, ((h2.1 q4).2.2.2.1 (by simpa using q8)).2.2.2.2⟩
      | 4, _, q8 =>
        refine z_aload_n dX11_edge_84 rfl ?_
        refine n_getp (ji := 3) dX11_edge_85 zf_X11_27 k_1 rfl (by decide) rfl p_1_3 ?_
        refine n_getp (ji := 10) dX11_edge_88 zf_X11_264 k_6 rfl (by decide) rfl p_6_10 ?_
        refine z_iload_n dX11_edge_91 rfl ?_
        refine n_iald dX11_edge_92 k_14 ((h2.1 q4).2.2.2.2.1 (by simpa using q8)).1 ?_
        exact z_ireturn dX11_edge_93 rfl rfl ⟨_, rfl, ((h2.1 q4).2.2.2.2.1 (by simpa using q8)).2⟩
      | 5, _, q8 =>
        refine z_aload_n dX11_edge_94 rfl ?_
        refine n_getp (ji := 4) dX11_edge_95 zf_X11_34 k_1 rfl (by decide) rfl p_1_4 ?_
        refine n_getp (ji := 2) dX11_edge_98 zf_X11_165 k_21 rfl (by decide) rfl p_21_2 ?_
        refine z_iload_n dX11_edge_101 rfl ?_
        refine n_iald dX11_edge_102 k_22 ((h2.1 q4).2.2.2.2.2.1 (by simpa using q8)).1 ?_
        exact z_ireturn dX11_edge_103 rfl rfl ⟨_, rfl, ((h2.1 q4).2.2.2.2.2.1 (by simpa using q8)).2⟩
      | 6, _, q8 =>
        refine z_aload_n dX11_edge_104 rfl ?_
        refine n_getp (ji := 4) dX11_edge_105 zf_X11_34 k_1 rfl (by decide) rfl p_1_4 ?_
        refine z_iload_n dX11_edge_108 rfl ?_
        refine n_vI (as := [(0, a)]) (rest := []) dX11_edge_109 zm_X3_isHinge zs_X11_130 k_21 (by decide) rfl rfl (Nat.le_of_ble_eq_true rfl) (Nat.le_of_ble_eq_true rfl) ((h2.1 q4).2.2.2.2.2.2.1 (by simpa using q8)) (fun x18 m16 h17 => ?_)
        refine z_if_eq (tgt := 119) dX11_edge_112 (by decide) (fun q19 => ?_) (fun q20 => ?_)
        · refine z_iconst dX11_edge_119 ⟨by decide, by decide⟩ ?_
          exact z_ireturn dX11_edge_120 rfl rfl ⟨_, rfl, (h17.1 q19)⟩
        · refine z_iconst dX11_edge_115 ⟨by decide, by decide⟩ ?_
          refine z_goto (tgt := 120) dX11_edge_116 (by decide) ?_
          exact z_ireturn dX11_edge_120 rfl rfl ⟨_, rfl, (h17.2 q20)⟩
      | 7, _, q8 =>
        refine z_aload_n dX11_edge_121 rfl ?_
        refine z_iload_n dX11_edge_122 rfl ?_
        refine n_vI (as := [(0, a)]) (rest := []) dX11_edge_123 zm_X11_isFree zs_X11_267 k_1 (by decide) rfl rfl (Nat.le_of_ble_eq_true rfl) (Nat.le_of_ble_eq_true rfl) ((h2.1 q4).2.2.2.2.2.2.2.1 (by simpa using q8)) (fun x23 m21 h22 => ?_)
        refine z_if_eq (tgt := 133) dX11_edge_126 (by decide) (fun q24 => ?_) (fun q25 => ?_)
        · refine z_iconst dX11_edge_133 ⟨by decide, by decide⟩ ?_
          exact z_ireturn dX11_edge_134 rfl rfl ⟨_, rfl, (h22.1 q24)⟩
        · refine z_iconst dX11_edge_129 ⟨by decide, by decide⟩ ?_
          refine z_goto (tgt := 134) dX11_edge_130 (by decide) ?_
          exact z_ireturn dX11_edge_134 rfl rfl ⟨_, rfl, (h22.2 q25)⟩
      | i6 + 8, q7, _ => exact absurd q7 (by simp)
    · refine z_iconst dX11_edge_135 ⟨by decide, by decide⟩ ?_
      exact z_ireturn dX11_edge_136 rfl rfl ⟨_, rfl, ((h2.1 q4).2.2.2.2.2.2.2.2 q9)⟩
  · refine z_iconst dX11_edge_8 ⟨by decide, by decide⟩ ?_
    exact z_ireturn dX11_edge_9 rfl rfl ⟨_, rfl, (h2.2 q5)⟩
set_option maxRecDepth 20000 in
theorem V_X11_corner {a b c : Int}  {μ : z_Mem} {d : Nat} {K : Int → z_Mem → Prop} (h : z_ci m_X11_isFace [(2, 1), (0, a)] μ d (fun x3 m1 => (x3 = 0 → K (-1) m1) ∧ (¬ x3 = 0 → (b < 0 → K (-1) m1) ∧ (0 ≤ b → (b ≤ 3 → z_I (4 * a) ∧ (z_I ((4 * a) + b) ∧ (((0 : Int) ≤ (4 * a) + b ∧ (4 * a) + b < 120) ∧ ((c = 0 → K (m1 15 ((4 * a) + b)) m1) ∧ (c = 1 → z_ci m_X11_isVertex [(2, 1), (0, m1 15 ((4 * a) + b))] m1 d (fun x15 m13 => (x15 = 0 → K (-1) m13) ∧ (¬ x15 = 0 → ((0 : Int) ≤ m1 15 ((4 * a) + b) ∧ m1 15 ((4 * a) + b) < 120) ∧ (K (m13 16 (m1 15 ((4 * a) + b))) m13)))) ∧ (¬ c = 0 ∧ ¬ c = 1 → K (-1) m1))))) ∧ (3 < b → K (-1) m1))))) : z_ci m_X11_corner [(2, 1), (0, a), (0, b), (0, c)] μ (d + 1) K := by
  show z_R m_X11_corner 0 [some (2, 1), some (0, a), some (0, b), some (0, c), none] [] z_n μ (d + 1) _
  refine z_aload_n dX11_corner_0 rfl ?_
  refine z_iload_n dX11_corner_1 rfl ?_
  refine n_vI (as := [(0, a)]) (rest := []) dX11_corner_2 zm_X11_isFace zs_X11_159 k_1 (by decide) rfl rfl (Nat.le_of_ble_eq_true rfl) (Nat.le_of_ble_eq_true rfl) h (fun x3 m1 h2 => ?_)
  refine z_if_eq (tgt := 17) dX11_corner_5 (by decide) (fun q4 => ?_) (fun q5 => ?_)
  · refine z_iconst dX11_corner_17 ⟨by decide, by decide⟩ ?_
    exact z_ireturn dX11_corner_18 rfl rfl ⟨_, rfl, (h2.1 q4)⟩
  · refine z_iload_n dX11_corner_8 rfl ?_
    refine z_if_lt (tgt := 17) dX11_corner_9 (by decide) (fun q6 => ?_) (fun q7 => ?_)
    · refine z_iconst dX11_corner_17 ⟨by decide, by decide⟩ ?_
      exact z_ireturn dX11_corner_18 rfl rfl ⟨_, rfl, ((h2.2 q5).1 q6)⟩
    · refine z_iload_n dX11_corner_12 rfl ?_
      refine z_iconst dX11_corner_13 ⟨by decide, by decide⟩ ?_
      refine z_icmp_le (tgt := 19) dX11_corner_14 (by decide) (fun q8 => ?_) (fun q9 => ?_)
      · refine z_aload_n dX11_corner_19 rfl ?_
        refine n_getp (ji := 3) dX11_corner_20 zf_X11_27 k_1 rfl (by decide) rfl p_1_3 ?_
        refine n_getp (ji := 12) dX11_corner_23 zf_X11_270 k_6 rfl (by decide) rfl p_6_12 ?_
        refine z_iconst dX11_corner_26 ⟨by decide, by decide⟩ ?_
        refine z_iload_n dX11_corner_27 rfl ?_
        refine z_imul dX11_corner_28 (((h2.2 q5).2 q7).1 q8).1 ?_
        refine z_iload_n dX11_corner_29 rfl ?_
        refine z_iadd dX11_corner_30 (((h2.2 q5).2 q7).1 q8).2.1 ?_
        refine n_iald dX11_corner_31 k_15 (((h2.2 q5).2 q7).1 q8).2.2.1 ?_
        refine n_istore (lo' := [some (2, 1), some (0, a), some (0, b), some (0, c), some (0, m1 15 ((4 * a) + b))]) dX11_corner_32 ⟨Nat.le_of_ble_eq_true rfl, Nat.le_of_ble_eq_true rfl⟩ rfl ?_
        refine z_iload_n dX11_corner_34 rfl ?_
        refine z_lookup2 (t0 := 60) (t1 := 63) (td := 87) dX11_corner_35 (by decide) (by decide) (by decide) (by decide) (fun q10 => ?_) (fun q11 => ?_) (fun q12 => ?_)
        · refine z_iload dX11_corner_60 rfl ?_
          exact z_ireturn dX11_corner_62 rfl rfl ⟨_, rfl, ((((h2.2 q5).2 q7).1 q8).2.2.2.1 q10)⟩
        · refine z_aload_n dX11_corner_63 rfl ?_
          refine z_iload dX11_corner_64 rfl ?_
          refine n_vI (as := [(0, m1 15 ((4 * a) + b))]) (rest := []) dX11_corner_66 zm_X11_isVertex zs_X11_273 k_1 (by decide) rfl rfl (Nat.le_of_ble_eq_true rfl) (Nat.le_of_ble_eq_true rfl) ((((h2.2 q5).2 q7).1 q8).2.2.2.2.1 q11) (fun x15 m13 h14 => ?_)
          refine z_if_eq (tgt := 85) dX11_corner_69 (by decide) (fun q16 => ?_) (fun q17 => ?_)
          · refine z_iconst dX11_corner_85 ⟨by decide, by decide⟩ ?_
            exact z_ireturn dX11_corner_86 rfl rfl ⟨_, rfl, (h14.1 q16)⟩
          · refine z_aload_n dX11_corner_72 rfl ?_
            refine n_getp (ji := 3) dX11_corner_73 zf_X11_27 k_1 rfl (by decide) rfl p_1_3 ?_
            refine n_getp (ji := 13) dX11_corner_76 zf_X11_276 k_6 rfl (by decide) rfl p_6_13 ?_
            refine z_iload dX11_corner_79 rfl ?_
            refine n_iald dX11_corner_81 k_16 (h14.2 q17).1 ?_
            refine z_goto (tgt := 86) dX11_corner_82 (by decide) ?_
            exact z_ireturn dX11_corner_86 rfl rfl ⟨_, rfl, (h14.2 q17).2⟩
        · refine z_iconst dX11_corner_87 ⟨by decide, by decide⟩ ?_
          exact z_ireturn dX11_corner_88 rfl rfl ⟨_, rfl, ((((h2.2 q5).2 q7).1 q8).2.2.2.2.2 q12)⟩
      · refine z_iconst dX11_corner_17 ⟨by decide, by decide⟩ ?_
        exact z_ireturn dX11_corner_18 rfl rfl ⟨_, rfl, (((h2.2 q5).2 q7).2 q9)⟩
set_option maxRecDepth 20000 in
theorem V_X11_vertex {a b : Int}  {μ : z_Mem} {d : Nat} {K : Int → z_Mem → Prop} (h : z_ci m_X11_isVertex [(2, 1), (0, a)] μ d (fun x3 m1 => (¬ x3 = 0 → (b = 0 → ((0 : Int) ≤ a ∧ a < 120) ∧ (K (m1 16 a) m1)) ∧ (b = 1 → ((0 : Int) ≤ a ∧ a < 120) ∧ (z_I (4 - (m1 16 a)) ∧ (K (4 - (m1 16 a)) m1))) ∧ (b = 2 → z_ci m_X11_cutsAt [(2, 1), (0, a)] m1 d (fun x12 m10 => K x12 m10)) ∧ (b < 0 ∨ 2 < b → K (-1) m1)) ∧ (x3 = 0 → K (-1) m1))) : z_ci m_X11_vertex [(2, 1), (0, a), (0, b)] μ (d + 1) K := by
  show z_R m_X11_vertex 0 [some (2, 1), some (0, a), some (0, b)] [] z_n μ (d + 1) _
  refine z_aload_n dX11_vertex_0 rfl ?_
  refine z_iload_n dX11_vertex_1 rfl ?_
  refine n_vI (as := [(0, a)]) (rest := []) dX11_vertex_2 zm_X11_isVertex zs_X11_273 k_1 (by decide) rfl rfl (Nat.le_of_ble_eq_true rfl) (Nat.le_of_ble_eq_true rfl) h (fun x3 m1 h2 => ?_)
  refine z_if_ne (tgt := 10) dX11_vertex_5 (by decide) (fun q4 => ?_) (fun q5 => ?_)
  · refine z_iload_n dX11_vertex_10 rfl ?_
    refine z_table dX11_vertex_11 [36, 46, 58] 64 (by decide) (by decide) (by decide) (fun i6 q7 q8 => ?_) (fun q9 => ?_)
    · match i6, q7, q8 with
      | 0, _, q8 =>
        refine z_aload_n dX11_vertex_36 rfl ?_
        refine n_getp (ji := 3) dX11_vertex_37 zf_X11_27 k_1 rfl (by decide) rfl p_1_3 ?_
        refine n_getp (ji := 13) dX11_vertex_40 zf_X11_276 k_6 rfl (by decide) rfl p_6_13 ?_
        refine z_iload_n dX11_vertex_43 rfl ?_
        refine n_iald dX11_vertex_44 k_16 ((h2.1 q4).1 (by simpa using q8)).1 ?_
        exact z_ireturn dX11_vertex_45 rfl rfl ⟨_, rfl, ((h2.1 q4).1 (by simpa using q8)).2⟩
      | 1, _, q8 =>
        refine z_iconst dX11_vertex_46 ⟨by decide, by decide⟩ ?_
        refine z_aload_n dX11_vertex_47 rfl ?_
        refine n_getp (ji := 3) dX11_vertex_48 zf_X11_27 k_1 rfl (by decide) rfl p_1_3 ?_
        refine n_getp (ji := 13) dX11_vertex_51 zf_X11_276 k_6 rfl (by decide) rfl p_6_13 ?_
        refine z_iload_n dX11_vertex_54 rfl ?_
        refine n_iald dX11_vertex_55 k_16 ((h2.1 q4).2.1 (by simpa using q8)).1 ?_
        refine z_isub dX11_vertex_56 ((h2.1 q4).2.1 (by simpa using q8)).2.1 ?_
        exact z_ireturn dX11_vertex_57 rfl rfl ⟨_, rfl, ((h2.1 q4).2.1 (by simpa using q8)).2.2⟩
      | 2, _, q8 =>
        refine z_aload_n dX11_vertex_58 rfl ?_
        refine z_iload_n dX11_vertex_59 rfl ?_
        refine n_vI (as := [(0, a)]) (rest := []) dX11_vertex_60 zm_X11_cutsAt zs_X11_279 k_1 (by decide) rfl rfl (Nat.le_of_ble_eq_true rfl) (Nat.le_of_ble_eq_true rfl) ((h2.1 q4).2.2.1 (by simpa using q8)) (fun x12 m10 h11 => ?_)
        exact z_ireturn dX11_vertex_63 rfl rfl ⟨_, rfl, h11⟩
      | i6 + 3, q7, _ => exact absurd q7 (by simp)
    · refine z_iconst dX11_vertex_64 ⟨by decide, by decide⟩ ?_
      exact z_ireturn dX11_vertex_65 rfl rfl ⟨_, rfl, ((h2.1 q4).2.2.2 q9)⟩
  · refine z_iconst dX11_vertex_8 ⟨by decide, by decide⟩ ?_
    exact z_ireturn dX11_vertex_9 rfl rfl ⟨_, rfl, (h2.2 q5)⟩
set_option maxRecDepth 20000 in
theorem V_X11_cutsAt {a : Int}  {μ : z_Mem} {d : Nat} {K : Int → z_Mem → Prop} (h : z_ri m_X11_cutsAt 4 [some (2, 1), some (0, a), some (0, 0), some (0, 0)] μ (d + 1) K) : z_ci m_X11_cutsAt [(2, 1), (0, a)] μ (d + 1) K := by
  show z_R m_X11_cutsAt 0 [some (2, 1), some (0, a), none, none] [] z_n μ (d + 1) _
  refine z_iconst dX11_cutsAt_0 ⟨by decide, by decide⟩ ?_
  refine n_istore_n (lo' := [some (2, 1), some (0, a), some (0, 0), none]) dX11_cutsAt_1 ⟨Nat.le_of_ble_eq_true rfl, Nat.le_of_ble_eq_true rfl⟩ rfl ?_
  refine z_iconst dX11_cutsAt_2 ⟨by decide, by decide⟩ ?_
  refine n_istore_n (lo' := [some (2, 1), some (0, a), some (0, 0), some (0, 0)]) dX11_cutsAt_3 ⟨Nat.le_of_ble_eq_true rfl, Nat.le_of_ble_eq_true rfl⟩ rfl ?_
  refine z_drop [some (2, 1), some (0, a), some (0, 0), some (0, 0)] ⟨rfl, rfl, rfl, rfl, trivial⟩ ?_
  exact h
set_option maxRecDepth 20000 in
theorem V_X11_cutsAt_4 {v1 v2 v3 : Int}  {μ : z_Mem} {d : Nat} {K : Int → z_Mem → Prop} (h : z_I (4 * (μ 6 2)) ∧ ((4 * (μ 6 2) ≤ v3 → K v2 μ) ∧ (v3 < 4 * (μ 6 2) → (120 ≤ v3 → K v2 μ) ∧ (v3 < 120 → ((0 : Int) ≤ v3 ∧ v3 < 120) ∧ ((¬ μ 15 v3 = v1 → z_I (v3 + 1) ∧ (z_ri m_X11_cutsAt 4 [some (2, 1), some (0, v1), some (0, v2), some (0, v3 + 1)] μ (d + 1) K)) ∧ (μ 15 v3 = v1 → z_ci m_X11_nextSlot [(0, v3)] μ d (fun x9 m7 => ((0 : Int) ≤ x9 ∧ x9 < 120) ∧ (z_ci m_X3_isHinge [(2, 21), (0, m7 12 x9)] m7 d (fun x12 m10 => (¬ x12 = 0 → z_I (v3 + 1) ∧ (z_ri m_X11_cutsAt 4 [some (2, 1), some (0, v1), some (0, v2), some (0, v3 + 1)] m10 (d + 1) K)) ∧ (x12 = 0 → z_I (v2 + 1) ∧ (z_I (v3 + 1) ∧ (z_ri m_X11_cutsAt 4 [some (2, 1), some (0, v1), some (0, v2 + 1), some (0, v3 + 1)] m10 (d + 1) K)))))))))))) : z_ri m_X11_cutsAt 4 [some (2, 1), some (0, v1), some (0, v2), some (0, v3)] μ (d + 1) K := by
  show z_R m_X11_cutsAt 4 [some (2, 1), some (0, v1), some (0, v2), some (0, v3)] [] z_n μ (d + 1) _
  refine z_iload_n dX11_cutsAt_4 rfl ?_
  refine z_iconst dX11_cutsAt_5 ⟨by decide, by decide⟩ ?_
  refine z_aload_n dX11_cutsAt_6 rfl ?_
  refine n_getp (ji := 3) dX11_cutsAt_7 zf_X11_27 k_1 rfl (by decide) rfl p_1_3 ?_
  refine n_getf (ji := 2) (t := 0) dX11_cutsAt_10 zf_X11_123 k_6 rfl (by decide) rfl ?_
  refine z_imul dX11_cutsAt_13 h.1 ?_
  refine z_icmp_ge (tgt := 67) dX11_cutsAt_14 (by decide) (fun q1 => ?_) (fun q2 => ?_)
  · refine z_iload_n dX11_cutsAt_67 rfl ?_
    exact z_ireturn dX11_cutsAt_68 rfl rfl ⟨_, rfl, (h.2.1 q1)⟩
  · refine z_iload_n dX11_cutsAt_17 rfl ?_
    refine z_bipush dX11_cutsAt_18 (by decide) ?_
    refine z_icmp_ge (tgt := 67) dX11_cutsAt_20 (by decide) (fun q3 => ?_) (fun q4 => ?_)
    · refine z_iload_n dX11_cutsAt_67 rfl ?_
      exact z_ireturn dX11_cutsAt_68 rfl rfl ⟨_, rfl, ((h.2.2 q2).1 q3)⟩
    · refine z_aload_n dX11_cutsAt_23 rfl ?_
      refine n_getp (ji := 3) dX11_cutsAt_24 zf_X11_27 k_1 rfl (by decide) rfl p_1_3 ?_
      refine n_getp (ji := 12) dX11_cutsAt_27 zf_X11_270 k_6 rfl (by decide) rfl p_6_12 ?_
      refine z_iload_n dX11_cutsAt_30 rfl ?_
      refine n_iald dX11_cutsAt_31 k_15 ((h.2.2 q2).2 q4).1 ?_
      refine z_iload_n dX11_cutsAt_32 rfl ?_
      refine z_icmp_ne (tgt := 61) dX11_cutsAt_33 (by decide) (fun q5 => ?_) (fun q6 => ?_)
      · refine n_iinc (lo' := [some (2, 1), some (0, v1), some (0, v2), some (0, v3 + 1)]) dX11_cutsAt_61 rfl (by decide) (((h.2.2 q2).2 q4).2.1 q5).1 rfl ?_
        refine z_goto (tgt := 4) dX11_cutsAt_64 (by decide) ?_
        refine z_drop [some (2, 1), some (0, v1), some (0, v2), some (0, v3 + 1)] ⟨rfl, rfl, rfl, rfl, trivial⟩ ?_
        exact (((h.2.2 q2).2 q4).2.1 q5).2
      · refine z_aload_n dX11_cutsAt_36 rfl ?_
        refine n_getp (ji := 4) dX11_cutsAt_37 zf_X11_34 k_1 rfl (by decide) rfl p_1_4 ?_
        refine z_aload_n dX11_cutsAt_40 rfl ?_
        refine n_getp (ji := 3) dX11_cutsAt_41 zf_X11_27 k_1 rfl (by decide) rfl p_1_3 ?_
        refine n_getp (ji := 7) dX11_cutsAt_44 zf_X11_255 k_6 rfl (by decide) rfl p_6_7 ?_
        refine z_iload_n dX11_cutsAt_47 rfl ?_
        refine n_sI (as := [(0, v3)]) (rest := [(2, 12), (2, 21)]) dX11_cutsAt_48 zm_X11_nextSlot zs_X11_282 rfl rfl (Nat.le_of_ble_eq_true rfl) (Nat.le_of_ble_eq_true rfl) (((h.2.2 q2).2 q4).2.2 q6) (fun x9 m7 h8 => ?_)
        refine n_iald dX11_cutsAt_51 k_12 h8.1 ?_
        refine n_vI (as := [(0, m7 12 x9)]) (rest := []) dX11_cutsAt_52 zm_X3_isHinge zs_X11_130 k_21 (by decide) rfl rfl (Nat.le_of_ble_eq_true rfl) (Nat.le_of_ble_eq_true rfl) h8.2 (fun x12 m10 h11 => ?_)
        refine z_if_ne (tgt := 61) dX11_cutsAt_55 (by decide) (fun q13 => ?_) (fun q14 => ?_)
        · refine n_iinc (lo' := [some (2, 1), some (0, v1), some (0, v2), some (0, v3 + 1)]) dX11_cutsAt_61 rfl (by decide) (h11.1 q13).1 rfl ?_
          refine z_goto (tgt := 4) dX11_cutsAt_64 (by decide) ?_
          refine z_drop [some (2, 1), some (0, v1), some (0, v2), some (0, v3 + 1)] ⟨rfl, rfl, rfl, rfl, trivial⟩ ?_
          exact (h11.1 q13).2
        · refine n_iinc (lo' := [some (2, 1), some (0, v1), some (0, v2 + 1), some (0, v3)]) dX11_cutsAt_58 rfl (by decide) (h11.2 q14).1 rfl ?_
          refine n_iinc (lo' := [some (2, 1), some (0, v1), some (0, v2 + 1), some (0, v3 + 1)]) dX11_cutsAt_61 rfl (by decide) (h11.2 q14).2.1 rfl ?_
          refine z_goto (tgt := 4) dX11_cutsAt_64 (by decide) ?_
          refine z_drop [some (2, 1), some (0, v1), some (0, v2 + 1), some (0, v3 + 1)] ⟨rfl, rfl, rfl, rfl, trivial⟩ ?_
          exact (h11.2 q14).2.2
set_option maxRecDepth 20000 in
theorem V_X11_place {a b : Int}  {μ : z_Mem} {d : Nat} {K : Int → z_Mem → Prop} (h : z_ci m_X11_isFace [(2, 1), (0, a)] μ d (fun x3 m1 => (x3 = 0 → K (-1000) m1) ∧ (¬ x3 = 0 → z_ci m_X6_holds [(2, 23), (0, a)] m1 d (fun x8 m6 => (¬ x8 = 0 → (b = 0 → ((0 : Int) ≤ a ∧ a < 30) ∧ (K (m6 24 a) m6)) ∧ (b = 1 → ((0 : Int) ≤ a ∧ a < 30) ∧ (K (m6 25 a) m6)) ∧ (b = 2 → ((0 : Int) ≤ a ∧ a < 30) ∧ (K (m6 26 a) m6)) ∧ (b < 0 ∨ 2 < b → K (-1000) m6)) ∧ (x8 = 0 → K (-1000) m6))))) : z_ci m_X11_place [(2, 1), (0, a), (0, b)] μ (d + 1) K := by
  show z_R m_X11_place 0 [some (2, 1), some (0, a), some (0, b)] [] z_n μ (d + 1) _
  refine z_aload_n dX11_place_0 rfl ?_
  refine z_iload_n dX11_place_1 rfl ?_
  refine n_vI (as := [(0, a)]) (rest := []) dX11_place_2 zm_X11_isFace zs_X11_159 k_1 (by decide) rfl rfl (Nat.le_of_ble_eq_true rfl) (Nat.le_of_ble_eq_true rfl) h (fun x3 m1 h2 => ?_)
  refine z_if_eq (tgt := 19) dX11_place_5 (by decide) (fun q4 => ?_) (fun q5 => ?_)
  · refine z_sipush dX11_place_19 (by decide) ?_
    exact z_ireturn dX11_place_22 rfl rfl ⟨_, rfl, (h2.1 q4)⟩
  · refine z_aload_n dX11_place_8 rfl ?_
    refine n_getp (ji := 5) dX11_place_9 zf_X11_41 k_1 rfl (by decide) rfl p_1_5 ?_
    refine z_iload_n dX11_place_12 rfl ?_
    refine n_vI (as := [(0, a)]) (rest := []) dX11_place_13 zm_X6_holds zs_X11_252 k_23 (by decide) rfl rfl (Nat.le_of_ble_eq_true rfl) (Nat.le_of_ble_eq_true rfl) (h2.2 q5) (fun x8 m6 h7 => ?_)
    refine z_if_ne (tgt := 23) dX11_place_16 (by decide) (fun q9 => ?_) (fun q10 => ?_)
    · refine z_iload_n dX11_place_23 rfl ?_
      refine z_table dX11_place_24 [52, 62, 72] 82 (by decide) (by decide) (by decide) (fun i11 q12 q13 => ?_) (fun q14 => ?_)
      · match i11, q12, q13 with
        | 0, _, q13 =>
          refine z_aload_n dX11_place_52 rfl ?_
          refine n_getp (ji := 5) dX11_place_53 zf_X11_41 k_1 rfl (by decide) rfl p_1_5 ?_
          refine n_getp (ji := 0) dX11_place_56 zf_X11_285 k_23 rfl (by decide) rfl p_23_0 ?_
          refine z_iload_n dX11_place_59 rfl ?_
          refine n_iald dX11_place_60 k_24 ((h7.1 q9).1 (by simpa using q13)).1 ?_
          exact z_ireturn dX11_place_61 rfl rfl ⟨_, rfl, ((h7.1 q9).1 (by simpa using q13)).2⟩
        | 1, _, q13 =>
          refine z_aload_n dX11_place_62 rfl ?_
          refine n_getp (ji := 5) dX11_place_63 zf_X11_41 k_1 rfl (by decide) rfl p_1_5 ?_
          refine n_getp (ji := 1) dX11_place_66 zf_X11_288 k_23 rfl (by decide) rfl p_23_1 ?_
          refine z_iload_n dX11_place_69 rfl ?_
          refine n_iald dX11_place_70 k_25 ((h7.1 q9).2.1 (by simpa using q13)).1 ?_
          exact z_ireturn dX11_place_71 rfl rfl ⟨_, rfl, ((h7.1 q9).2.1 (by simpa using q13)).2⟩
        | 2, _, q13 =>
          refine z_aload_n dX11_place_72 rfl ?_
          refine n_getp (ji := 5) dX11_place_73 zf_X11_41 k_1 rfl (by decide) rfl p_1_5 ?_
          refine n_getp (ji := 2) dX11_place_76 zf_X11_291 k_23 rfl (by decide) rfl p_23_2 ?_
          refine z_iload_n dX11_place_79 rfl ?_
          refine n_iald dX11_place_80 k_26 ((h7.1 q9).2.2.1 (by simpa using q13)).1 ?_
          exact z_ireturn dX11_place_81 rfl rfl ⟨_, rfl, ((h7.1 q9).2.2.1 (by simpa using q13)).2⟩
        | i11 + 3, q12, _ => exact absurd q12 (by simp)
      · refine z_sipush dX11_place_82 (by decide) ?_
        exact z_ireturn dX11_place_85 rfl rfl ⟨_, rfl, ((h7.1 q9).2.2.2 q14)⟩
    · refine z_sipush dX11_place_19 (by decide) ?_
      exact z_ireturn dX11_place_22 rfl rfl ⟨_, rfl, (h7.2 q10)⟩
set_option maxRecDepth 20000 in
theorem V_X11_over {a : Int}  {μ : z_Mem} {d : Nat} {K : Int → z_Mem → Prop} (h : ((-1) ≤ a → z_ci m_X6_overlap [(2, 23), (0, a)] μ d (fun x5 m3 => K x5 m3)) ∧ (a < (-1) → K (-1) μ)) : z_ci m_X11_over [(2, 1), (0, a)] μ (d + 1) K := by
  show z_R m_X11_over 0 [some (2, 1), some (0, a)] [] z_n μ (d + 1) _
  refine z_iload_n dX11_over_0 rfl ?_
  refine z_iconst dX11_over_1 ⟨by decide, by decide⟩ ?_
  refine z_icmp_ge (tgt := 9) dX11_over_2 (by decide) (fun q1 => ?_) (fun q2 => ?_)
  · refine z_aload_n dX11_over_9 rfl ?_
    refine n_getp (ji := 5) dX11_over_10 zf_X11_41 k_1 rfl (by decide) rfl p_1_5 ?_
    refine z_iload_n dX11_over_13 rfl ?_
    refine n_vI (as := [(0, a)]) (rest := []) dX11_over_14 zm_X6_overlap zs_X11_192 k_23 (by decide) rfl rfl (Nat.le_of_ble_eq_true rfl) (Nat.le_of_ble_eq_true rfl) (h.1 q1) (fun x5 m3 h4 => ?_)
    exact z_ireturn dX11_over_17 rfl rfl ⟨_, rfl, h4⟩
  · refine z_iconst dX11_over_5 ⟨by decide, by decide⟩ ?_
    refine z_goto (tgt := 17) dX11_over_6 (by decide) ?_
    exact z_ireturn dX11_over_17 rfl rfl ⟨_, rfl, (h.2 q2)⟩
set_option maxRecDepth 20000 in
theorem V_X11_box {a : Int}  {μ : z_Mem} {d : Nat} {K : Int → z_Mem → Prop} (h : (a < 0 → K (-1000) μ) ∧ (0 ≤ a → (3 < a → K (-1000) μ) ∧ (a ≤ 3 → (¬ μ 23 6 = 0 → (¬ a % 2 = 0 → (2 ≤ a → z_ci m_X6_greatest [(2, 23), (2, 25)] μ d (fun x13 m11 => K x13 m11)) ∧ (a < 2 → z_ci m_X6_least [(2, 23), (2, 25)] μ d (fun x16 m14 => K x16 m14))) ∧ (a % 2 = 0 → (2 ≤ a → z_ci m_X6_greatest [(2, 23), (2, 24)] μ d (fun x21 m19 => K x21 m19)) ∧ (a < 2 → z_ci m_X6_least [(2, 23), (2, 24)] μ d (fun x24 m22 => K x24 m22)))) ∧ (μ 23 6 = 0 → K (-1000) μ)))) : z_ci m_X11_box [(2, 1), (0, a)] μ (d + 1) K := by
  show z_R m_X11_box 0 [some (2, 1), some (0, a), none] [] z_n μ (d + 1) _
  refine z_iload_n dX11_box_0 rfl ?_
  refine z_if_lt (tgt := 19) dX11_box_1 (by decide) (fun q1 => ?_) (fun q2 => ?_)
  · refine z_sipush dX11_box_19 (by decide) ?_
    exact z_ireturn dX11_box_22 rfl rfl ⟨_, rfl, (h.1 q1)⟩
  · refine z_iload_n dX11_box_4 rfl ?_
    refine z_iconst dX11_box_5 ⟨by decide, by decide⟩ ?_
    refine z_icmp_gt (tgt := 19) dX11_box_6 (by decide) (fun q3 => ?_) (fun q4 => ?_)
    · refine z_sipush dX11_box_19 (by decide) ?_
      exact z_ireturn dX11_box_22 rfl rfl ⟨_, rfl, ((h.2 q2).1 q3)⟩
    · refine z_aload_n dX11_box_9 rfl ?_
      refine n_getp (ji := 5) dX11_box_10 zf_X11_41 k_1 rfl (by decide) rfl p_1_5 ?_
      refine n_getf (ji := 6) (t := 0) dX11_box_13 zf_X11_294 k_23 rfl (by decide) rfl ?_
      refine z_if_ne (tgt := 23) dX11_box_16 (by decide) (fun q5 => ?_) (fun q6 => ?_)
      · refine z_iload_n dX11_box_23 rfl ?_
        refine z_iconst dX11_box_24 ⟨by decide, by decide⟩ ?_
        refine n_iandm (k := 1) (m := 2) dX11_box_25 (by decide) (by decide) ?_
        refine z_if_ne (tgt := 39) dX11_box_26 (by decide) (fun q7 => ?_) (fun q8 => ?_)
        · refine z_aload_n dX11_box_39 rfl ?_
          refine n_getp (ji := 5) dX11_box_40 zf_X11_41 k_1 rfl (by decide) rfl p_1_5 ?_
          refine n_getp (ji := 1) dX11_box_43 zf_X11_288 k_23 rfl (by decide) rfl p_23_1 ?_
          refine n_astore_n (lo' := [some (2, 1), some (0, a), some (2, 25)]) dX11_box_46 (by decide) ⟨Nat.le_of_ble_eq_true rfl, Nat.le_of_ble_eq_true rfl⟩ rfl ?_
          refine z_iload_n dX11_box_47 rfl ?_
          refine z_iconst dX11_box_48 ⟨by decide, by decide⟩ ?_
          refine z_icmp_ge (tgt := 63) dX11_box_49 (by decide) (fun q9 => ?_) (fun q10 => ?_)
          · refine z_aload_n dX11_box_63 rfl ?_
            refine n_getp (ji := 5) dX11_box_64 zf_X11_41 k_1 rfl (by decide) rfl p_1_5 ?_
            refine z_aload_n dX11_box_67 rfl ?_
            refine n_vI (as := [(2, 25)]) (rest := []) dX11_box_68 zm_X6_greatest zs_X11_301 k_23 (by decide) rfl rfl (Nat.le_of_ble_eq_true rfl) (Nat.le_of_ble_eq_true rfl) (((((h.2 q2).2 q4).1 q5).1 q7).1 q9) (fun x13 m11 h12 => ?_)
            exact z_ireturn dX11_box_71 rfl rfl ⟨_, rfl, h12⟩
          · refine z_aload_n dX11_box_52 rfl ?_
            refine n_getp (ji := 5) dX11_box_53 zf_X11_41 k_1 rfl (by decide) rfl p_1_5 ?_
            refine z_aload_n dX11_box_56 rfl ?_
            refine n_vI (as := [(2, 25)]) (rest := []) dX11_box_57 zm_X6_least zs_X11_297 k_23 (by decide) rfl rfl (Nat.le_of_ble_eq_true rfl) (Nat.le_of_ble_eq_true rfl) (((((h.2 q2).2 q4).1 q5).1 q7).2 q10) (fun x16 m14 h15 => ?_)
            refine z_goto (tgt := 71) dX11_box_60 (by decide) ?_
            exact z_ireturn dX11_box_71 rfl rfl ⟨_, rfl, h15⟩
        · refine z_aload_n dX11_box_29 rfl ?_
          refine n_getp (ji := 5) dX11_box_30 zf_X11_41 k_1 rfl (by decide) rfl p_1_5 ?_
          refine n_getp (ji := 0) dX11_box_33 zf_X11_285 k_23 rfl (by decide) rfl p_23_0 ?_
          refine z_goto (tgt := 46) dX11_box_36 (by decide) ?_
          refine n_astore_n (lo' := [some (2, 1), some (0, a), some (2, 24)]) dX11_box_46 (by decide) ⟨Nat.le_of_ble_eq_true rfl, Nat.le_of_ble_eq_true rfl⟩ rfl ?_
          refine z_iload_n dX11_box_47 rfl ?_
          refine z_iconst dX11_box_48 ⟨by decide, by decide⟩ ?_
          refine z_icmp_ge (tgt := 63) dX11_box_49 (by decide) (fun q17 => ?_) (fun q18 => ?_)
          · refine z_aload_n dX11_box_63 rfl ?_
            refine n_getp (ji := 5) dX11_box_64 zf_X11_41 k_1 rfl (by decide) rfl p_1_5 ?_
            refine z_aload_n dX11_box_67 rfl ?_
            refine n_vI (as := [(2, 24)]) (rest := []) dX11_box_68 zm_X6_greatest zs_X11_301 k_23 (by decide) rfl rfl (Nat.le_of_ble_eq_true rfl) (Nat.le_of_ble_eq_true rfl) (((((h.2 q2).2 q4).1 q5).2 q8).1 q17) (fun x21 m19 h20 => ?_)
            exact z_ireturn dX11_box_71 rfl rfl ⟨_, rfl, h20⟩
          · refine z_aload_n dX11_box_52 rfl ?_
            refine n_getp (ji := 5) dX11_box_53 zf_X11_41 k_1 rfl (by decide) rfl p_1_5 ?_
            refine z_aload_n dX11_box_56 rfl ?_
            refine n_vI (as := [(2, 24)]) (rest := []) dX11_box_57 zm_X6_least zs_X11_297 k_23 (by decide) rfl rfl (Nat.le_of_ble_eq_true rfl) (Nat.le_of_ble_eq_true rfl) (((((h.2 q2).2 q4).1 q5).2 q8).2 q18) (fun x24 m22 h23 => ?_)
            refine z_goto (tgt := 71) dX11_box_60 (by decide) ?_
            exact z_ireturn dX11_box_71 rfl rfl ⟨_, rfl, h23⟩
      · refine z_sipush dX11_box_19 (by decide) ?_
        exact z_ireturn dX11_box_22 rfl rfl ⟨_, rfl, (((h.2 q2).2 q4).2 q6)⟩
set_option maxRecDepth 20000 in
theorem V_X11_part {a : Int}  {μ : z_Mem} {d : Nat} {K : Int → z_Mem → Prop} (h : z_ci m_X11_isEdge [(2, 1), (0, a)] μ d (fun x3 m1 => (¬ x3 = 0 → z_ci m_X3_isHinge [(2, 21), (0, a)] m1 d (fun x8 m6 => (¬ x8 = 0 → ((0 : Int) ≤ a ∧ a < 63) ∧ (((0 : Int) ≤ m6 21 0 ∧ (0 : Int) ≤ ((2 : Int) ^ (a : Int).toNat)) ∧ (z_ci m_X9_reach [(2, 6), (0, m6 21 1), (1, ((((m6 21 0 : Int).toNat ^^^ ((m6 21 0 : Int).toNat &&& (((2 : Int) ^ (a : Int).toNat) : Int).toNat) : Nat)) : Int))] m6 d (fun x13 m11 => ((0 : Int) ≤ m6 23 5 ∧ (0 : Int) ≤ x13) ∧ (K ((((m6 23 5 : Int).toNat ^^^ ((m6 23 5 : Int).toNat &&& (x13 : Int).toNat) : Nat)) : Int) m11))))) ∧ (x8 = 0 → K (-2) m6))) ∧ (x3 = 0 → K (-1) m1))) : z_ci m_X11_part [(2, 1), (0, a)] μ (d + 1) K := by
  show z_R m_X11_part 0 [some (2, 1), some (0, a)] [] z_n μ (d + 1) _
  refine z_aload_n dX11_part_0 rfl ?_
  refine z_iload_n dX11_part_1 rfl ?_
  refine n_vI (as := [(0, a)]) (rest := []) dX11_part_2 zm_X11_isEdge zs_X11_126 k_1 (by decide) rfl rfl (Nat.le_of_ble_eq_true rfl) (Nat.le_of_ble_eq_true rfl) h (fun x3 m1 h2 => ?_)
  refine z_if_ne (tgt := 10) dX11_part_5 (by decide) (fun q4 => ?_) (fun q5 => ?_)
  · refine z_aload_n dX11_part_10 rfl ?_
    refine n_getp (ji := 4) dX11_part_11 zf_X11_34 k_1 rfl (by decide) rfl p_1_4 ?_
    refine z_iload_n dX11_part_14 rfl ?_
    refine n_vI (as := [(0, a)]) (rest := []) dX11_part_15 zm_X3_isHinge zs_X11_130 k_21 (by decide) rfl rfl (Nat.le_of_ble_eq_true rfl) (Nat.le_of_ble_eq_true rfl) (h2.1 q4) (fun x8 m6 h7 => ?_)
    refine z_if_ne (tgt := 24) dX11_part_18 (by decide) (fun q9 => ?_) (fun q10 => ?_)
    · refine z_aload_n dX11_part_24 rfl ?_
      refine n_getp (ji := 5) dX11_part_25 zf_X11_41 k_1 rfl (by decide) rfl p_1_5 ?_
      refine n_getf (ji := 5) (t := 0) dX11_part_28 zf_X11_304 k_23 rfl (by decide) rfl ?_
      refine z_aload_n dX11_part_31 rfl ?_
      refine n_getp (ji := 3) dX11_part_32 zf_X11_27 k_1 rfl (by decide) rfl p_1_3 ?_
      refine z_aload_n dX11_part_35 rfl ?_
      refine n_getp (ji := 4) dX11_part_36 zf_X11_34 k_1 rfl (by decide) rfl p_1_4 ?_
      refine n_getf (ji := 1) (t := 0) dX11_part_39 zf_X11_162 k_21 rfl (by decide) rfl ?_
      refine z_aload_n dX11_part_42 rfl ?_
      refine n_getp (ji := 4) dX11_part_43 zf_X11_34 k_1 rfl (by decide) rfl p_1_4 ?_
      refine n_getf (ji := 0) (t := 1) dX11_part_46 zf_X11_137 k_21 rfl (by decide) rfl ?_
      refine z_lconst1 dX11_part_49 ?_
      refine z_iload_n dX11_part_50 rfl ?_
      refine n_lshl1 dX11_part_51 (h7.1 q9).1 ?_
      refine z_ldc2 (n := -1) dX11_part_52 zc_847 ⟨by decide, by decide⟩ ?_
      refine z_lxorn dX11_part_55 rfl ?_
      refine z_landn dX11_part_56 (((2 : Int) ^ (a : Int).toNat)) rfl (h7.1 q9).2.1.1 (h7.1 q9).2.1.2 ?_
      refine n_vI (as := [(0, m6 21 1), (1, ((((m6 21 0 : Int).toNat ^^^ ((m6 21 0 : Int).toNat &&& (((2 : Int) ^ (a : Int).toNat) : Int).toNat) : Nat)) : Int))]) (rest := [(0, m6 23 5)]) dX11_part_57 zm_X9_reach zs_X11_307 k_6 (by decide) rfl rfl (Nat.le_of_ble_eq_true rfl) (Nat.le_of_ble_eq_true rfl) (h7.1 q9).2.2 (fun x13 m11 h12 => ?_)
      refine z_iconst dX11_part_60 ⟨by decide, by decide⟩ ?_
      refine z_ixorn dX11_part_61 rfl ?_
      refine z_iandn dX11_part_62 (x13) rfl h12.1.1 h12.1.2 ?_
      exact z_ireturn dX11_part_63 rfl rfl ⟨_, rfl, h12.2⟩
    · refine z_bipush dX11_part_21 (by decide) ?_
      exact z_ireturn dX11_part_23 rfl rfl ⟨_, rfl, (h7.2 q10)⟩
  · refine z_iconst dX11_part_8 ⟨by decide, by decide⟩ ?_
    exact z_ireturn dX11_part_9 rfl rfl ⟨_, rfl, (h2.2 q5)⟩
set_option maxRecDepth 20000 in
theorem V_X11_way {a b c : Int}  {μ : z_Mem} {d : Nat} {K : Int → z_Mem → Prop} (h : z_ci m_X11_isFace [(2, 1), (0, a)] μ d (fun x3 m1 => (x3 = 0 → K (-1) m1) ∧ (¬ x3 = 0 → z_ci m_X11_isFace [(2, 1), (0, b)] m1 d (fun x8 m6 => (x8 = 0 → K (-1) m6) ∧ (¬ x8 = 0 → ((-1) ≤ c → z_ci m_X9_walkBack [(2, 6), (0, b), (0, a), (1, m6 21 0)] m6 d (fun x15 m13 => (¬ x15 = (-1) → (¬ c = (-1) → (c ≤ x15 → z_ci m_X9_faceOnWay [(2, 6), (0, a), (0, c)] m13 d (fun x24 m22 => K x24 m22)) ∧ (x15 < c → K (-2) m13)) ∧ (c = (-1) → K x15 m13)) ∧ (x15 = (-1) → K (-3) m13))) ∧ (c < (-1) → K (-1) m6)))))) : z_ci m_X11_way [(2, 1), (0, a), (0, b), (0, c)] μ (d + 1) K := by
  show z_R m_X11_way 0 [some (2, 1), some (0, a), some (0, b), some (0, c), none] [] z_n μ (d + 1) _
  refine z_aload_n dX11_way_0 rfl ?_
  refine z_iload_n dX11_way_1 rfl ?_
  refine n_vI (as := [(0, a)]) (rest := []) dX11_way_2 zm_X11_isFace zs_X11_159 k_1 (by decide) rfl rfl (Nat.le_of_ble_eq_true rfl) (Nat.le_of_ble_eq_true rfl) h (fun x3 m1 h2 => ?_)
  refine z_if_eq (tgt := 21) dX11_way_5 (by decide) (fun q4 => ?_) (fun q5 => ?_)
  · refine z_iconst dX11_way_21 ⟨by decide, by decide⟩ ?_
    exact z_ireturn dX11_way_22 rfl rfl ⟨_, rfl, (h2.1 q4)⟩
  · refine z_aload_n dX11_way_8 rfl ?_
    refine z_iload_n dX11_way_9 rfl ?_
    refine n_vI (as := [(0, b)]) (rest := []) dX11_way_10 zm_X11_isFace zs_X11_159 k_1 (by decide) rfl rfl (Nat.le_of_ble_eq_true rfl) (Nat.le_of_ble_eq_true rfl) (h2.2 q5) (fun x8 m6 h7 => ?_)
    refine z_if_eq (tgt := 21) dX11_way_13 (by decide) (fun q9 => ?_) (fun q10 => ?_)
    · refine z_iconst dX11_way_21 ⟨by decide, by decide⟩ ?_
      exact z_ireturn dX11_way_22 rfl rfl ⟨_, rfl, (h7.1 q9)⟩
    · refine z_iload_n dX11_way_16 rfl ?_
      refine z_iconst dX11_way_17 ⟨by decide, by decide⟩ ?_
      refine z_icmp_ge (tgt := 23) dX11_way_18 (by decide) (fun q11 => ?_) (fun q12 => ?_)
      · refine z_aload_n dX11_way_23 rfl ?_
        refine n_getp (ji := 3) dX11_way_24 zf_X11_27 k_1 rfl (by decide) rfl p_1_3 ?_
        refine z_iload_n dX11_way_27 rfl ?_
        refine z_iload_n dX11_way_28 rfl ?_
        refine z_aload_n dX11_way_29 rfl ?_
        refine n_getp (ji := 4) dX11_way_30 zf_X11_34 k_1 rfl (by decide) rfl p_1_4 ?_
        refine n_getf (ji := 0) (t := 1) dX11_way_33 zf_X11_137 k_21 rfl (by decide) rfl ?_
        refine n_vI (as := [(0, b), (0, a), (1, m6 21 0)]) (rest := []) dX11_way_36 zm_X9_walkBack zs_X11_311 k_6 (by decide) rfl rfl (Nat.le_of_ble_eq_true rfl) (Nat.le_of_ble_eq_true rfl) ((h7.2 q10).1 q11) (fun x15 m13 h14 => ?_)
        refine n_istore (lo' := [some (2, 1), some (0, a), some (0, b), some (0, c), some (0, x15)]) dX11_way_39 ⟨Nat.le_of_ble_eq_true rfl, Nat.le_of_ble_eq_true rfl⟩ rfl ?_
        refine z_iload dX11_way_41 rfl ?_
        refine z_iconst dX11_way_43 ⟨by decide, by decide⟩ ?_
        refine z_icmp_ne (tgt := 50) dX11_way_44 (by decide) (fun q16 => ?_) (fun q17 => ?_)
        · refine z_iload_n dX11_way_50 rfl ?_
          refine z_iconst dX11_way_51 ⟨by decide, by decide⟩ ?_
          refine z_icmp_ne (tgt := 58) dX11_way_52 (by decide) (fun q18 => ?_) (fun q19 => ?_)
          · refine z_iload_n dX11_way_58 rfl ?_
            refine z_iload dX11_way_59 rfl ?_
            refine z_icmp_le (tgt := 69) dX11_way_61 (by decide) (fun q20 => ?_) (fun q21 => ?_)
            · refine z_aload_n dX11_way_69 rfl ?_
              refine n_getp (ji := 3) dX11_way_70 zf_X11_27 k_1 rfl (by decide) rfl p_1_3 ?_
              refine z_iload_n dX11_way_73 rfl ?_
              refine z_iload_n dX11_way_74 rfl ?_
              refine n_vI (as := [(0, a), (0, c)]) (rest := []) dX11_way_75 zm_X9_faceOnWay zs_X11_315 k_6 (by decide) rfl rfl (Nat.le_of_ble_eq_true rfl) (Nat.le_of_ble_eq_true rfl) (((h14.1 q16).1 q18).1 q20) (fun x24 m22 h23 => ?_)
              exact z_ireturn dX11_way_78 rfl rfl ⟨_, rfl, h23⟩
            · refine z_bipush dX11_way_64 (by decide) ?_
              refine z_goto (tgt := 78) dX11_way_66 (by decide) ?_
              exact z_ireturn dX11_way_78 rfl rfl ⟨_, rfl, (((h14.1 q16).1 q18).2 q21)⟩
          · refine z_iload dX11_way_55 rfl ?_
            exact z_ireturn dX11_way_57 rfl rfl ⟨_, rfl, ((h14.1 q16).2 q19)⟩
        · refine z_bipush dX11_way_47 (by decide) ?_
          exact z_ireturn dX11_way_49 rfl rfl ⟨_, rfl, (h14.2 q17)⟩
      · refine z_iconst dX11_way_21 ⟨by decide, by decide⟩ ?_
        exact z_ireturn dX11_way_22 rfl rfl ⟨_, rfl, ((h7.2 q10).2 q12)⟩
set_option maxRecDepth 20000 in
theorem V_X11_free {a : Int}  {μ : z_Mem} {d : Nat} {K : Int → z_Mem → Prop} (h : ((-1) ≤ a → z_ri m_X11_free 11 [some (2, 1), some (0, a), some (0, 0), some (0, 0)] μ (d + 1) K) ∧ (a < (-1) → K (-1) μ)) : z_ci m_X11_free [(2, 1), (0, a)] μ (d + 1) K := by
  show z_R m_X11_free 0 [some (2, 1), some (0, a), none, none] [] z_n μ (d + 1) _
  refine z_iload_n dX11_free_0 rfl ?_
  refine z_iconst dX11_free_1 ⟨by decide, by decide⟩ ?_
  refine z_icmp_ge (tgt := 7) dX11_free_2 (by decide) (fun q1 => ?_) (fun q2 => ?_)
  · refine z_iconst dX11_free_7 ⟨by decide, by decide⟩ ?_
    refine n_istore_n (lo' := [some (2, 1), some (0, a), some (0, 0), none]) dX11_free_8 ⟨Nat.le_of_ble_eq_true rfl, Nat.le_of_ble_eq_true rfl⟩ rfl ?_
    refine z_iconst dX11_free_9 ⟨by decide, by decide⟩ ?_
    refine n_istore_n (lo' := [some (2, 1), some (0, a), some (0, 0), some (0, 0)]) dX11_free_10 ⟨Nat.le_of_ble_eq_true rfl, Nat.le_of_ble_eq_true rfl⟩ rfl ?_
    refine z_drop [some (2, 1), some (0, a), some (0, 0), some (0, 0)] ⟨rfl, rfl, rfl, rfl, trivial⟩ ?_
    exact (h.1 q1)
  · refine z_iconst dX11_free_5 ⟨by decide, by decide⟩ ?_
    exact z_ireturn dX11_free_6 rfl rfl ⟨_, rfl, (h.2 q2)⟩
set_option maxRecDepth 20000 in
theorem V_X11_free_11 {v1 v2 v3 : Int}  {μ : z_Mem} {d : Nat} {K : Int → z_Mem → Prop} (h : (μ 6 8 ≤ v3 → (¬ v1 = (-1) → K (-2) μ) ∧ (v1 = (-1) → K v2 μ)) ∧ (v3 < μ 6 8 → z_ci m_X11_isFree [(2, 1), (0, v3)] μ d (fun x7 m5 => (x7 = 0 → z_I (v3 + 1) ∧ (z_ri m_X11_free 11 [some (2, 1), some (0, v1), some (0, v2), some (0, v3 + 1)] m5 (d + 1) K)) ∧ (¬ x7 = 0 → (¬ v2 = v1 → z_I (v2 + 1) ∧ (z_I (v3 + 1) ∧ (z_ri m_X11_free 11 [some (2, 1), some (0, v1), some (0, v2 + 1), some (0, v3 + 1)] m5 (d + 1) K))) ∧ (v2 = v1 → K v3 m5))))) : z_ri m_X11_free 11 [some (2, 1), some (0, v1), some (0, v2), some (0, v3)] μ (d + 1) K := by
  show z_R m_X11_free 11 [some (2, 1), some (0, v1), some (0, v2), some (0, v3)] [] z_n μ (d + 1) _
  refine z_iload_n dX11_free_11 rfl ?_
  refine z_aload_n dX11_free_12 rfl ?_
  refine n_getp (ji := 3) dX11_free_13 zf_X11_27 k_1 rfl (by decide) rfl p_1_3 ?_
  refine n_getf (ji := 8) (t := 0) dX11_free_16 zf_X11_172 k_6 rfl (by decide) rfl ?_
  refine z_icmp_ge (tgt := 46) dX11_free_19 (by decide) (fun q1 => ?_) (fun q2 => ?_)
  · refine z_iload_n dX11_free_46 rfl ?_
    refine z_iconst dX11_free_47 ⟨by decide, by decide⟩ ?_
    refine z_icmp_ne (tgt := 55) dX11_free_48 (by decide) (fun q3 => ?_) (fun q4 => ?_)
    · refine z_bipush dX11_free_55 (by decide) ?_
      exact z_ireturn dX11_free_57 rfl rfl ⟨_, rfl, ((h.1 q1).1 q3)⟩
    · refine z_iload_n dX11_free_51 rfl ?_
      refine z_goto (tgt := 57) dX11_free_52 (by decide) ?_
      exact z_ireturn dX11_free_57 rfl rfl ⟨_, rfl, ((h.1 q1).2 q4)⟩
  · refine z_aload_n dX11_free_22 rfl ?_
    refine z_iload_n dX11_free_23 rfl ?_
    refine n_vI (as := [(0, v3)]) (rest := []) dX11_free_24 zm_X11_isFree zs_X11_267 k_1 (by decide) rfl rfl (Nat.le_of_ble_eq_true rfl) (Nat.le_of_ble_eq_true rfl) (h.2 q2) (fun x7 m5 h6 => ?_)
    refine z_if_eq (tgt := 40) dX11_free_27 (by decide) (fun q8 => ?_) (fun q9 => ?_)
    · refine n_iinc (lo' := [some (2, 1), some (0, v1), some (0, v2), some (0, v3 + 1)]) dX11_free_40 rfl (by decide) (h6.1 q8).1 rfl ?_
      refine z_goto (tgt := 11) dX11_free_43 (by decide) ?_
      refine z_drop [some (2, 1), some (0, v1), some (0, v2), some (0, v3 + 1)] ⟨rfl, rfl, rfl, rfl, trivial⟩ ?_
      exact (h6.1 q8).2
    · refine z_iload_n dX11_free_30 rfl ?_
      refine z_iload_n dX11_free_31 rfl ?_
      refine z_icmp_ne (tgt := 37) dX11_free_32 (by decide) (fun q10 => ?_) (fun q11 => ?_)
      · refine n_iinc (lo' := [some (2, 1), some (0, v1), some (0, v2 + 1), some (0, v3)]) dX11_free_37 rfl (by decide) ((h6.2 q9).1 q10).1 rfl ?_
        refine n_iinc (lo' := [some (2, 1), some (0, v1), some (0, v2 + 1), some (0, v3 + 1)]) dX11_free_40 rfl (by decide) ((h6.2 q9).1 q10).2.1 rfl ?_
        refine z_goto (tgt := 11) dX11_free_43 (by decide) ?_
        refine z_drop [some (2, 1), some (0, v1), some (0, v2 + 1), some (0, v3 + 1)] ⟨rfl, rfl, rfl, rfl, trivial⟩ ?_
        exact ((h6.2 q9).1 q10).2.2
      · refine z_iload_n dX11_free_35 rfl ?_
        exact z_ireturn dX11_free_36 rfl rfl ⟨_, rfl, ((h6.2 q9).2 q11)⟩
set_option maxRecDepth 20000 in
theorem V_X11_rim {a b : Int}  {μ : z_Mem} {d : Nat} {K : Int → z_Mem → Prop} (h : z_ci m_X11_traceBorder [(2, 1)] μ d (fun x3 m1 => (x3 = 0 → K (-1) m1) ∧ (¬ x3 = 0 → (a < (-1) → K (-1) m1) ∧ ((-1) ≤ a → (a < m1 39 1 → (¬ a = (-1) → (b = 0 → ((0 : Int) ≤ a ∧ a < 62) ∧ (K ((m1 40 a) / 4) m1)) ∧ (b = 1 → ((0 : Int) ≤ a ∧ a < 62) ∧ (K ((m1 40 a) % 4) m1)) ∧ (b = 2 → ((0 : Int) ≤ a ∧ a < 62) ∧ (K (m1 41 a) m1)) ∧ (b = 3 → ((0 : Int) ≤ a ∧ a < 62) ∧ (K (m1 42 a) m1)) ∧ (b < 0 ∨ 3 < b → K (-1) m1)) ∧ (a = (-1) → (¬ b = 0 → K (-1) m1) ∧ (b = 0 → K (m1 39 1) m1))) ∧ (m1 39 1 ≤ a → K (-1) m1))))) : z_ci m_X11_rim [(2, 1), (0, a), (0, b)] μ (d + 1) K := by
  show z_R m_X11_rim 0 [some (2, 1), some (0, a), some (0, b)] [] z_n μ (d + 1) _
  refine z_aload_n dX11_rim_0 rfl ?_
  refine n_vI (as := []) (rest := []) dX11_rim_1 zm_X11_traceBorder zs_X11_318 k_1 (by decide) rfl rfl (Nat.le_of_ble_eq_true rfl) (Nat.le_of_ble_eq_true rfl) h (fun x3 m1 h2 => ?_)
  refine z_if_eq (tgt := 23) dX11_rim_4 (by decide) (fun q4 => ?_) (fun q5 => ?_)
  · refine z_iconst dX11_rim_23 ⟨by decide, by decide⟩ ?_
    exact z_ireturn dX11_rim_24 rfl rfl ⟨_, rfl, (h2.1 q4)⟩
  · refine z_iload_n dX11_rim_7 rfl ?_
    refine z_iconst dX11_rim_8 ⟨by decide, by decide⟩ ?_
    refine z_icmp_lt (tgt := 23) dX11_rim_9 (by decide) (fun q6 => ?_) (fun q7 => ?_)
    · refine z_iconst dX11_rim_23 ⟨by decide, by decide⟩ ?_
      exact z_ireturn dX11_rim_24 rfl rfl ⟨_, rfl, ((h2.2 q5).1 q6)⟩
    · refine z_iload_n dX11_rim_12 rfl ?_
      refine z_aload_n dX11_rim_13 rfl ?_
      refine n_getp (ji := 8) dX11_rim_14 zf_X11_64 k_1 rfl (by decide) rfl p_1_8 ?_
      refine n_getf (ji := 1) (t := 0) dX11_rim_17 zf_X11_321 k_39 rfl (by decide) rfl ?_
      refine z_icmp_lt (tgt := 25) dX11_rim_20 (by decide) (fun q8 => ?_) (fun q9 => ?_)
      · refine z_iload_n dX11_rim_25 rfl ?_
        refine z_iconst dX11_rim_26 ⟨by decide, by decide⟩ ?_
        refine z_icmp_ne (tgt := 46) dX11_rim_27 (by decide) (fun q10 => ?_) (fun q11 => ?_)
        · refine z_iload_n dX11_rim_46 rfl ?_
          refine z_table dX11_rim_47 [76, 88, 100, 110] 120 (by decide) (by decide) (by decide) (fun i12 q13 q14 => ?_) (fun q15 => ?_)
          · match i12, q13, q14 with
            | 0, _, q14 =>
              refine z_aload_n dX11_rim_76 rfl ?_
              refine n_getp (ji := 8) dX11_rim_77 zf_X11_64 k_1 rfl (by decide) rfl p_1_8 ?_
              refine n_getp (ji := 2) dX11_rim_80 zf_X11_324 k_39 rfl (by decide) rfl p_39_2 ?_
              refine z_iload_n dX11_rim_83 rfl ?_
              refine n_iald dX11_rim_84 k_40 (((((h2.2 q5).2 q7).1 q8).1 q10).1 (by simpa using q14)).1 ?_
              refine z_iconst dX11_rim_85 ⟨by decide, by decide⟩ ?_
              refine n_ishr (m := 4) dX11_rim_86 (by decide) (by decide) ?_
              exact z_ireturn dX11_rim_87 rfl rfl ⟨_, rfl, (((((h2.2 q5).2 q7).1 q8).1 q10).1 (by simpa using q14)).2⟩
            | 1, _, q14 =>
              refine z_aload_n dX11_rim_88 rfl ?_
              refine n_getp (ji := 8) dX11_rim_89 zf_X11_64 k_1 rfl (by decide) rfl p_1_8 ?_
              refine n_getp (ji := 2) dX11_rim_92 zf_X11_324 k_39 rfl (by decide) rfl p_39_2 ?_
              refine z_iload_n dX11_rim_95 rfl ?_
              refine n_iald dX11_rim_96 k_40 (((((h2.2 q5).2 q7).1 q8).1 q10).2.1 (by simpa using q14)).1 ?_
              refine z_iconst dX11_rim_97 ⟨by decide, by decide⟩ ?_
              refine n_iandm (k := 2) (m := 4) dX11_rim_98 (by decide) (by decide) ?_
              exact z_ireturn dX11_rim_99 rfl rfl ⟨_, rfl, (((((h2.2 q5).2 q7).1 q8).1 q10).2.1 (by simpa using q14)).2⟩
            | 2, _, q14 =>
              refine z_aload_n dX11_rim_100 rfl ?_
              refine n_getp (ji := 8) dX11_rim_101 zf_X11_64 k_1 rfl (by decide) rfl p_1_8 ?_
              refine n_getp (ji := 3) dX11_rim_104 zf_X11_327 k_39 rfl (by decide) rfl p_39_3 ?_
              refine z_iload_n dX11_rim_107 rfl ?_
              refine n_iald dX11_rim_108 k_41 (((((h2.2 q5).2 q7).1 q8).1 q10).2.2.1 (by simpa using q14)).1 ?_
              exact z_ireturn dX11_rim_109 rfl rfl ⟨_, rfl, (((((h2.2 q5).2 q7).1 q8).1 q10).2.2.1 (by simpa using q14)).2⟩
            | 3, _, q14 =>
              refine z_aload_n dX11_rim_110 rfl ?_
              refine n_getp (ji := 8) dX11_rim_111 zf_X11_64 k_1 rfl (by decide) rfl p_1_8 ?_
              refine n_getp (ji := 4) dX11_rim_114 zf_X11_330 k_39 rfl (by decide) rfl p_39_4 ?_
              refine z_iload_n dX11_rim_117 rfl ?_
              refine n_iald dX11_rim_118 k_42 (((((h2.2 q5).2 q7).1 q8).1 q10).2.2.2.1 (by simpa using q14)).1 ?_
              exact z_ireturn dX11_rim_119 rfl rfl ⟨_, rfl, (((((h2.2 q5).2 q7).1 q8).1 q10).2.2.2.1 (by simpa using q14)).2⟩
            | i12 + 4, q13, _ => exact absurd q13 (by simp)
          · refine z_iconst dX11_rim_120 ⟨by decide, by decide⟩ ?_
            exact z_ireturn dX11_rim_121 rfl rfl ⟨_, rfl, (((((h2.2 q5).2 q7).1 q8).1 q10).2.2.2.2 q15)⟩
        · refine z_iload_n dX11_rim_30 rfl ?_
          refine z_if_ne (tgt := 44) dX11_rim_31 (by decide) (fun q16 => ?_) (fun q17 => ?_)
          · refine z_iconst dX11_rim_44 ⟨by decide, by decide⟩ ?_
            exact z_ireturn dX11_rim_45 rfl rfl ⟨_, rfl, (((((h2.2 q5).2 q7).1 q8).2 q11).1 q16)⟩
          · refine z_aload_n dX11_rim_34 rfl ?_
            refine n_getp (ji := 8) dX11_rim_35 zf_X11_64 k_1 rfl (by decide) rfl p_1_8 ?_
            refine n_getf (ji := 1) (t := 0) dX11_rim_38 zf_X11_321 k_39 rfl (by decide) rfl ?_
            refine z_goto (tgt := 45) dX11_rim_41 (by decide) ?_
            exact z_ireturn dX11_rim_45 rfl rfl ⟨_, rfl, (((((h2.2 q5).2 q7).1 q8).2 q11).2 q17)⟩
      · refine z_iconst dX11_rim_23 ⟨by decide, by decide⟩ ?_
        exact z_ireturn dX11_rim_24 rfl rfl ⟨_, rfl, (((h2.2 q5).2 q7).2 q9)⟩
set_option maxRecDepth 20000 in
theorem V_X11_gluings  {μ : z_Mem} {d : Nat} {K : Int → z_Mem → Prop} (h : z_ci m_X11_traceBorder [(2, 1)] μ d (fun x3 m1 => (¬ x3 = 0 → (m1 39 1 ≤ 22 → z_cn m_X1_findAll [(2, 44), (2, 39)] m1 d (fun m8 => K (m8 44 1) m8)) ∧ (22 < m1 39 1 → K (-3) m1)) ∧ (x3 = 0 → K (-1) m1))) : z_ci m_X11_gluings [(2, 1)] μ (d + 1) K := by
  show z_R m_X11_gluings 0 [some (2, 1)] [] z_n μ (d + 1) _
  refine z_aload_n dX11_gluings_0 rfl ?_
  refine n_vI (as := []) (rest := []) dX11_gluings_1 zm_X11_traceBorder zs_X11_318 k_1 (by decide) rfl rfl (Nat.le_of_ble_eq_true rfl) (Nat.le_of_ble_eq_true rfl) h (fun x3 m1 h2 => ?_)
  refine z_if_ne (tgt := 9) dX11_gluings_4 (by decide) (fun q4 => ?_) (fun q5 => ?_)
  · refine z_aload_n dX11_gluings_9 rfl ?_
    refine n_getp (ji := 8) dX11_gluings_10 zf_X11_64 k_1 rfl (by decide) rfl p_1_8 ?_
    refine n_getf (ji := 1) (t := 0) dX11_gluings_13 zf_X11_321 k_39 rfl (by decide) rfl ?_
    refine z_bipush dX11_gluings_16 (by decide) ?_
    refine z_icmp_le (tgt := 24) dX11_gluings_18 (by decide) (fun q6 => ?_) (fun q7 => ?_)
    · refine z_aload_n dX11_gluings_24 rfl ?_
      refine n_getp (ji := 9) dX11_gluings_25 zf_X11_71 k_1 rfl (by decide) rfl p_1_9 ?_
      refine z_aload_n dX11_gluings_28 rfl ?_
      refine n_getp (ji := 8) dX11_gluings_29 zf_X11_64 k_1 rfl (by decide) rfl p_1_8 ?_
      refine n_vN (as := [(2, 39)]) (rest := []) dX11_gluings_32 zm_X1_findAll zs_X11_333 k_44 (by decide) rfl rfl (Nat.le_of_ble_eq_true rfl) (Nat.le_of_ble_eq_true rfl) ((h2.1 q4).1 q6) (fun m8 h9 => ?_)
      refine z_aload_n dX11_gluings_35 rfl ?_
      refine n_getp (ji := 9) dX11_gluings_36 zf_X11_71 k_1 rfl (by decide) rfl p_1_9 ?_
      refine n_getf (ji := 1) (t := 0) dX11_gluings_39 zf_X11_337 k_44 rfl (by decide) rfl ?_
      exact z_ireturn dX11_gluings_42 rfl rfl ⟨_, rfl, h9⟩
    · refine z_bipush dX11_gluings_21 (by decide) ?_
      exact z_ireturn dX11_gluings_23 rfl rfl ⟨_, rfl, ((h2.1 q4).2 q7)⟩
  · refine z_iconst dX11_gluings_7 ⟨by decide, by decide⟩ ?_
    exact z_ireturn dX11_gluings_8 rfl rfl ⟨_, rfl, (h2.2 q5)⟩
set_option maxRecDepth 20000 in
theorem V_X11_glued {a b : Int}  {μ : z_Mem} {d : Nat} {K : Int → z_Mem → Prop} (h : z_ci m_X11_traceBorder [(2, 1)] μ d (fun x3 m1 => (x3 = 0 → K (-1) m1) ∧ (¬ x3 = 0 → (a < 0 → K (-1) m1) ∧ (0 ≤ a → (b < 0 → K (-1) m1) ∧ (0 ≤ b → (b < m1 39 1 → z_ci m_X11_gluings [(2, 1)] m1 d (fun x14 m12 => (0 ≤ x14 → z_ci m_X1_unpack [(2, 44), (0, a)] m12 d (fun x19 m17 => (x19 = 0 → K (-1) m17) ∧ (¬ x19 = 0 → (22 ≤ b → K (-1) m17) ∧ (b < 22 → ((0 : Int) ≤ b ∧ b < 22) ∧ (K (m17 45 b) m17))))) ∧ (x14 < 0 → K x14 m12))) ∧ (m1 39 1 ≤ b → K (-1) m1)))))) : z_ci m_X11_glued [(2, 1), (0, a), (0, b)] μ (d + 1) K := by
  show z_R m_X11_glued 0 [some (2, 1), some (0, a), some (0, b), none] [] z_n μ (d + 1) _
  refine z_aload_n dX11_glued_0 rfl ?_
  refine n_vI (as := []) (rest := []) dX11_glued_1 zm_X11_traceBorder zs_X11_318 k_1 (by decide) rfl rfl (Nat.le_of_ble_eq_true rfl) (Nat.le_of_ble_eq_true rfl) h (fun x3 m1 h2 => ?_)
  refine z_if_eq (tgt := 26) dX11_glued_4 (by decide) (fun q4 => ?_) (fun q5 => ?_)
  · refine z_iconst dX11_glued_26 ⟨by decide, by decide⟩ ?_
    exact z_ireturn dX11_glued_27 rfl rfl ⟨_, rfl, (h2.1 q4)⟩
  · refine z_iload_n dX11_glued_7 rfl ?_
    refine z_if_lt (tgt := 26) dX11_glued_8 (by decide) (fun q6 => ?_) (fun q7 => ?_)
    · refine z_iconst dX11_glued_26 ⟨by decide, by decide⟩ ?_
      exact z_ireturn dX11_glued_27 rfl rfl ⟨_, rfl, ((h2.2 q5).1 q6)⟩
    · refine z_iload_n dX11_glued_11 rfl ?_
      refine z_if_lt (tgt := 26) dX11_glued_12 (by decide) (fun q8 => ?_) (fun q9 => ?_)
      · refine z_iconst dX11_glued_26 ⟨by decide, by decide⟩ ?_
        exact z_ireturn dX11_glued_27 rfl rfl ⟨_, rfl, (((h2.2 q5).2 q7).1 q8)⟩
      · refine z_iload_n dX11_glued_15 rfl ?_
        refine z_aload_n dX11_glued_16 rfl ?_
        refine n_getp (ji := 8) dX11_glued_17 zf_X11_64 k_1 rfl (by decide) rfl p_1_8 ?_
        refine n_getf (ji := 1) (t := 0) dX11_glued_20 zf_X11_321 k_39 rfl (by decide) rfl ?_
        refine z_icmp_lt (tgt := 28) dX11_glued_23 (by decide) (fun q10 => ?_) (fun q11 => ?_)
        · refine z_aload_n dX11_glued_28 rfl ?_
          refine n_vI (as := []) (rest := []) dX11_glued_29 zm_X11_gluings zs_X11_340 k_1 (by decide) rfl rfl (Nat.le_of_ble_eq_true rfl) (Nat.le_of_ble_eq_true rfl) ((((h2.2 q5).2 q7).2 q9).1 q10) (fun x14 m12 h13 => ?_)
          refine n_istore_n (lo' := [some (2, 1), some (0, a), some (0, b), some (0, x14)]) dX11_glued_32 ⟨Nat.le_of_ble_eq_true rfl, Nat.le_of_ble_eq_true rfl⟩ rfl ?_
          refine z_iload_n dX11_glued_33 rfl ?_
          refine z_if_ge (tgt := 39) dX11_glued_34 (by decide) (fun q15 => ?_) (fun q16 => ?_)
          · refine z_aload_n dX11_glued_39 rfl ?_
            refine n_getp (ji := 9) dX11_glued_40 zf_X11_71 k_1 rfl (by decide) rfl p_1_9 ?_
            refine z_iload_n dX11_glued_43 rfl ?_
            refine n_vI (as := [(0, a)]) (rest := []) dX11_glued_44 zm_X1_unpack zs_X11_343 k_44 (by decide) rfl rfl (Nat.le_of_ble_eq_true rfl) (Nat.le_of_ble_eq_true rfl) (h13.1 q15) (fun x19 m17 h18 => ?_)
            refine z_if_eq (tgt := 68) dX11_glued_47 (by decide) (fun q20 => ?_) (fun q21 => ?_)
            · refine z_iconst dX11_glued_68 ⟨by decide, by decide⟩ ?_
              exact z_ireturn dX11_glued_69 rfl rfl ⟨_, rfl, (h18.1 q20)⟩
            · refine z_iload_n dX11_glued_50 rfl ?_
              refine z_bipush dX11_glued_51 (by decide) ?_
              refine z_icmp_ge (tgt := 68) dX11_glued_53 (by decide) (fun q22 => ?_) (fun q23 => ?_)
              · refine z_iconst dX11_glued_68 ⟨by decide, by decide⟩ ?_
                exact z_ireturn dX11_glued_69 rfl rfl ⟨_, rfl, ((h18.2 q21).1 q22)⟩
              · refine z_aload_n dX11_glued_56 rfl ?_
                refine n_getp (ji := 9) dX11_glued_57 zf_X11_71 k_1 rfl (by decide) rfl p_1_9 ?_
                refine n_getp (ji := 2) dX11_glued_60 zf_X11_346 k_44 rfl (by decide) rfl p_44_2 ?_
                refine z_iload_n dX11_glued_63 rfl ?_
                refine n_iald dX11_glued_64 k_45 ((h18.2 q21).2 q23).1 ?_
                refine z_goto (tgt := 69) dX11_glued_65 (by decide) ?_
                exact z_ireturn dX11_glued_69 rfl rfl ⟨_, rfl, ((h18.2 q21).2 q23).2⟩
          · refine z_iload_n dX11_glued_37 rfl ?_
            exact z_ireturn dX11_glued_38 rfl rfl ⟨_, rfl, (h13.2 q16)⟩
        · refine z_iconst dX11_glued_26 ⟨by decide, by decide⟩ ?_
          exact z_ireturn dX11_glued_27 rfl rfl ⟨_, rfl, ((((h2.2 q5).2 q7).2 q9).2 q11)⟩
set_option maxRecDepth 20000 in
theorem V_X11_lacks {a b : Int}  {μ : z_Mem} {d : Nat} {K : Int → z_Mem → Prop} (h : z_ci m_X11_traceBorder [(2, 1)] μ d (fun x3 m1 => (x3 = 0 → K (-1) m1) ∧ (¬ x3 = 0 → (a < 0 → K (-1) m1) ∧ (0 ≤ a → (b < 0 → K (-1) m1) ∧ (0 ≤ b → (b ≤ 2 → z_ci m_X11_gluings [(2, 1)] m1 d (fun x14 m12 => (0 ≤ x14 → z_ci m_X1_unpack [(2, 44), (0, a)] m12 d (fun x19 m17 => (x19 = 0 → K (-1) m17) ∧ (¬ x19 = 0 → z_ci m_X1_measure [(2, 44), (2, 39), (0, b)] m17 d (fun x24 m22 => K x24 m22)))) ∧ (x14 < 0 → K x14 m12))) ∧ (2 < b → K (-1) m1)))))) : z_ci m_X11_lacks [(2, 1), (0, a), (0, b)] μ (d + 1) K := by
  show z_R m_X11_lacks 0 [some (2, 1), some (0, a), some (0, b), none] [] z_n μ (d + 1) _
  refine z_aload_n dX11_lacks_0 rfl ?_
  refine n_vI (as := []) (rest := []) dX11_lacks_1 zm_X11_traceBorder zs_X11_318 k_1 (by decide) rfl rfl (Nat.le_of_ble_eq_true rfl) (Nat.le_of_ble_eq_true rfl) h (fun x3 m1 h2 => ?_)
  refine z_if_eq (tgt := 20) dX11_lacks_4 (by decide) (fun q4 => ?_) (fun q5 => ?_)
  · refine z_iconst dX11_lacks_20 ⟨by decide, by decide⟩ ?_
    exact z_ireturn dX11_lacks_21 rfl rfl ⟨_, rfl, (h2.1 q4)⟩
  · refine z_iload_n dX11_lacks_7 rfl ?_
    refine z_if_lt (tgt := 20) dX11_lacks_8 (by decide) (fun q6 => ?_) (fun q7 => ?_)
    · refine z_iconst dX11_lacks_20 ⟨by decide, by decide⟩ ?_
      exact z_ireturn dX11_lacks_21 rfl rfl ⟨_, rfl, ((h2.2 q5).1 q6)⟩
    · refine z_iload_n dX11_lacks_11 rfl ?_
      refine z_if_lt (tgt := 20) dX11_lacks_12 (by decide) (fun q8 => ?_) (fun q9 => ?_)
      · refine z_iconst dX11_lacks_20 ⟨by decide, by decide⟩ ?_
        exact z_ireturn dX11_lacks_21 rfl rfl ⟨_, rfl, (((h2.2 q5).2 q7).1 q8)⟩
      · refine z_iload_n dX11_lacks_15 rfl ?_
        refine z_iconst dX11_lacks_16 ⟨by decide, by decide⟩ ?_
        refine z_icmp_le (tgt := 22) dX11_lacks_17 (by decide) (fun q10 => ?_) (fun q11 => ?_)
        · refine z_aload_n dX11_lacks_22 rfl ?_
          refine n_vI (as := []) (rest := []) dX11_lacks_23 zm_X11_gluings zs_X11_340 k_1 (by decide) rfl rfl (Nat.le_of_ble_eq_true rfl) (Nat.le_of_ble_eq_true rfl) ((((h2.2 q5).2 q7).2 q9).1 q10) (fun x14 m12 h13 => ?_)
          refine n_istore_n (lo' := [some (2, 1), some (0, a), some (0, b), some (0, x14)]) dX11_lacks_26 ⟨Nat.le_of_ble_eq_true rfl, Nat.le_of_ble_eq_true rfl⟩ rfl ?_
          refine z_iload_n dX11_lacks_27 rfl ?_
          refine z_if_ge (tgt := 33) dX11_lacks_28 (by decide) (fun q15 => ?_) (fun q16 => ?_)
          · refine z_aload_n dX11_lacks_33 rfl ?_
            refine n_getp (ji := 9) dX11_lacks_34 zf_X11_71 k_1 rfl (by decide) rfl p_1_9 ?_
            refine z_iload_n dX11_lacks_37 rfl ?_
            refine n_vI (as := [(0, a)]) (rest := []) dX11_lacks_38 zm_X1_unpack zs_X11_343 k_44 (by decide) rfl rfl (Nat.le_of_ble_eq_true rfl) (Nat.le_of_ble_eq_true rfl) (h13.1 q15) (fun x19 m17 h18 => ?_)
            refine z_if_eq (tgt := 59) dX11_lacks_41 (by decide) (fun q20 => ?_) (fun q21 => ?_)
            · refine z_iconst dX11_lacks_59 ⟨by decide, by decide⟩ ?_
              exact z_ireturn dX11_lacks_60 rfl rfl ⟨_, rfl, (h18.1 q20)⟩
            · refine z_aload_n dX11_lacks_44 rfl ?_
              refine n_getp (ji := 9) dX11_lacks_45 zf_X11_71 k_1 rfl (by decide) rfl p_1_9 ?_
              refine z_aload_n dX11_lacks_48 rfl ?_
              refine n_getp (ji := 8) dX11_lacks_49 zf_X11_64 k_1 rfl (by decide) rfl p_1_8 ?_
              refine z_iload_n dX11_lacks_52 rfl ?_
              refine n_vI (as := [(2, 39), (0, b)]) (rest := []) dX11_lacks_53 zm_X1_measure zs_X11_349 k_44 (by decide) rfl rfl (Nat.le_of_ble_eq_true rfl) (Nat.le_of_ble_eq_true rfl) (h18.2 q21) (fun x24 m22 h23 => ?_)
              refine z_goto (tgt := 60) dX11_lacks_56 (by decide) ?_
              exact z_ireturn dX11_lacks_60 rfl rfl ⟨_, rfl, h23⟩
          · refine z_iload_n dX11_lacks_31 rfl ?_
            exact z_ireturn dX11_lacks_32 rfl rfl ⟨_, rfl, (h13.2 q16)⟩
        · refine z_iconst dX11_lacks_20 ⟨by decide, by decide⟩ ?_
          exact z_ireturn dX11_lacks_21 rfl rfl ⟨_, rfl, ((((h2.2 q5).2 q7).2 q9).2 q11)⟩
set_option maxRecDepth 20000 in
theorem V_X11_itself  {μ : z_Mem} {d : Nat} {K : Int → z_Mem → Prop} (h : z_ci m_X11_gluings [(2, 1)] μ d (fun x3 m1 => (0 ≤ x3 → z_ci m_X1_numberOf [(2, 44), (2, 39)] m1 d (fun x8 m6 => K x8 m6)) ∧ (x3 < 0 → K x3 m1))) : z_ci m_X11_itself [(2, 1)] μ (d + 1) K := by
  show z_R m_X11_itself 0 [some (2, 1), none] [] z_n μ (d + 1) _
  refine z_aload_n dX11_itself_0 rfl ?_
  refine n_vI (as := []) (rest := []) dX11_itself_1 zm_X11_gluings zs_X11_340 k_1 (by decide) rfl rfl (Nat.le_of_ble_eq_true rfl) (Nat.le_of_ble_eq_true rfl) h (fun x3 m1 h2 => ?_)
  refine n_istore_n (lo' := [some (2, 1), some (0, x3)]) dX11_itself_4 ⟨Nat.le_of_ble_eq_true rfl, Nat.le_of_ble_eq_true rfl⟩ rfl ?_
  refine z_iload_n dX11_itself_5 rfl ?_
  refine z_if_ge (tgt := 13) dX11_itself_6 (by decide) (fun q4 => ?_) (fun q5 => ?_)
  · refine z_aload_n dX11_itself_13 rfl ?_
    refine n_getp (ji := 9) dX11_itself_14 zf_X11_71 k_1 rfl (by decide) rfl p_1_9 ?_
    refine z_aload_n dX11_itself_17 rfl ?_
    refine n_getp (ji := 8) dX11_itself_18 zf_X11_64 k_1 rfl (by decide) rfl p_1_8 ?_
    refine n_vI (as := [(2, 39)]) (rest := []) dX11_itself_21 zm_X1_numberOf zs_X11_353 k_44 (by decide) rfl rfl (Nat.le_of_ble_eq_true rfl) (Nat.le_of_ble_eq_true rfl) (h2.1 q4) (fun x8 m6 h7 => ?_)
    exact z_ireturn dX11_itself_24 rfl rfl ⟨_, rfl, h7⟩
  · refine z_iload_n dX11_itself_9 rfl ?_
    refine z_goto (tgt := 24) dX11_itself_10 (by decide) ?_
    exact z_ireturn dX11_itself_24 rfl rfl ⟨_, rfl, (h2.2 q5)⟩
set_option maxRecDepth 20000 in
theorem V_X11_outline  {μ : z_Mem} {d : Nat} {K : Int → z_Mem → Prop} (h : z_ci m_X11_netFaces [(2, 1)] μ d (fun x3 m1 => z_cn m_X8_draw [(2, 75), (2, 23), (0, x3)] m1 d (fun m4 => z_cl' m_X8_number [(2, 75)] m4 d (fun x8 m6 => K x8 m6)))) : z_cl' m_X11_outline [(2, 1)] μ (d + 1) K := by
  show z_R m_X11_outline 0 [some (2, 1)] [] z_n μ (d + 1) _
  refine z_aload_n dX11_outline_0 rfl ?_
  refine n_getp (ji := 10) dX11_outline_1 zf_X11_78 k_1 rfl (by decide) rfl p_1_10 ?_
  refine z_aload_n dX11_outline_4 rfl ?_
  refine n_getp (ji := 5) dX11_outline_5 zf_X11_41 k_1 rfl (by decide) rfl p_1_5 ?_
  refine z_aload_n dX11_outline_8 rfl ?_
  refine n_vI (as := []) (rest := [(2, 23), (2, 75)]) dX11_outline_9 zm_X11_netFaces zs_X11_222 k_1 (by decide) rfl rfl (Nat.le_of_ble_eq_true rfl) (Nat.le_of_ble_eq_true rfl) h (fun x3 m1 h2 => ?_)
  refine n_vN (as := [(2, 23), (0, x3)]) (rest := []) dX11_outline_12 zm_X8_draw zs_X11_225 k_75 (by decide) rfl rfl (Nat.le_of_ble_eq_true rfl) (Nat.le_of_ble_eq_true rfl) h2 (fun m4 h5 => ?_)
  refine z_aload_n dX11_outline_15 rfl ?_
  refine n_getp (ji := 10) dX11_outline_16 zf_X11_78 k_1 rfl (by decide) rfl p_1_10 ?_
  refine n_vL (as := []) (rest := []) dX11_outline_19 zm_X8_number zs_X11_357 k_75 (by decide) rfl rfl (Nat.le_of_ble_eq_true rfl) (Nat.le_of_ble_eq_true rfl) h5 (fun x8 m6 h7 => ?_)
  exact z_lreturn dX11_outline_22 rfl rfl ⟨_, rfl, h7⟩
set_option maxRecDepth 20000 in
theorem V_X11_alike {a : Int}  {μ : z_Mem} {d : Nat} {K : Int → z_Mem → Prop} (h : z_ci m_X11_isShelf [(2, 1), (0, a)] μ d (fun x3 m1 => (x3 = 0 → K (-1) m1) ∧ (¬ x3 = 0 → ((0 : Int) ≤ a ∧ a < 2) ∧ ((¬ m1 (103 + 5 * a) 0 = 0 → z_ci m_X11_netFaces [(2, 1)] m1 d (fun x10 m8 => z_cn m_X8_draw [(2, 75), (2, 23), (0, x10)] m8 d (fun m11 => ((0 : Int) ≤ a ∧ a < 2) ∧ ((m11 75 0 = 0 → K (-2) m11) ∧ (¬ m11 75 0 = 0 → (¬ m11 (103 + 5 * a) 4 = 0 → z_ci m_X8_isSame [(2, 75), (2, ((103 + 5 * a) + 4)), (0, m11 (103 + 5 * a) 4)] m11 d (fun x19 m17 => (x19 = 0 → K 0 m17) ∧ (¬ x19 = 0 → K 1 m17))) ∧ (m11 (103 + 5 * a) 4 = 0 → K (-2) m11)))))) ∧ (m1 (103 + 5 * a) 0 = 0 → K (-1) m1))))) : z_ci m_X11_alike [(2, 1), (0, a)] μ (d + 1) K := by
  show z_R m_X11_alike 0 [some (2, 1), some (0, a), none] [] z_n μ (d + 1) _
  refine z_aload_n dX11_alike_0 rfl ?_
  refine z_iload_n dX11_alike_1 rfl ?_
  refine n_vI (as := [(0, a)]) (rest := []) dX11_alike_2 zm_X11_isShelf zs_X11_219 k_1 (by decide) rfl rfl (Nat.le_of_ble_eq_true rfl) (Nat.le_of_ble_eq_true rfl) h (fun x3 m1 h2 => ?_)
  refine z_if_eq (tgt := 20) dX11_alike_5 (by decide) (fun q4 => ?_) (fun q5 => ?_)
  · refine z_iconst dX11_alike_20 ⟨by decide, by decide⟩ ?_
    exact z_ireturn dX11_alike_21 rfl rfl ⟨_, rfl, (h2.1 q4)⟩
  · refine z_aload_n dX11_alike_8 rfl ?_
    refine n_getp (ji := 12) dX11_alike_9 zf_X11_91 k_1 rfl (by decide) rfl p_1_12 ?_
    refine z_iload_n dX11_alike_12 rfl ?_
    refine n_aaldS dX11_alike_13 k_102 (h2.2 q5).1 (r_102_p (h2.2 q5).1) ?_
    refine n_getf (ji := 0) (t := 0) dX11_alike_14 zf_X11_233 (r_102_k (h2.2 q5).1) rfl (by decide) rfl ?_
    refine z_if_ne (tgt := 22) dX11_alike_17 (by decide) (fun q6 => ?_) (fun q7 => ?_)
    · refine z_aload_n dX11_alike_22 rfl ?_
      refine n_getp (ji := 10) dX11_alike_23 zf_X11_78 k_1 rfl (by decide) rfl p_1_10 ?_
      refine z_aload_n dX11_alike_26 rfl ?_
      refine n_getp (ji := 5) dX11_alike_27 zf_X11_41 k_1 rfl (by decide) rfl p_1_5 ?_
      refine z_aload_n dX11_alike_30 rfl ?_
      refine n_vI (as := []) (rest := [(2, 23), (2, 75)]) dX11_alike_31 zm_X11_netFaces zs_X11_222 k_1 (by decide) rfl rfl (Nat.le_of_ble_eq_true rfl) (Nat.le_of_ble_eq_true rfl) ((h2.2 q5).2.1 q6) (fun x10 m8 h9 => ?_)
      refine n_vN (as := [(2, 23), (0, x10)]) (rest := []) dX11_alike_34 zm_X8_draw zs_X11_225 k_75 (by decide) rfl rfl (Nat.le_of_ble_eq_true rfl) (Nat.le_of_ble_eq_true rfl) h9 (fun m11 h12 => ?_)
      refine z_aload_n dX11_alike_37 rfl ?_
      refine n_getp (ji := 12) dX11_alike_38 zf_X11_91 k_1 rfl (by decide) rfl p_1_12 ?_
      refine z_iload_n dX11_alike_41 rfl ?_
      refine n_aaldS dX11_alike_42 k_102 h12.1 (r_102_p h12.1) ?_
      refine n_astore_n (lo' := [some (2, 1), some (0, a), some (2, (103 + 5 * a))]) dX11_alike_43 (z_nz (r_102_k h12.1)) ⟨Nat.le_of_ble_eq_true rfl, Nat.le_of_ble_eq_true rfl⟩ rfl ?_
      refine z_aload_n dX11_alike_44 rfl ?_
      refine n_getp (ji := 10) dX11_alike_45 zf_X11_78 k_1 rfl (by decide) rfl p_1_10 ?_
      refine n_getf (ji := 0) (t := 0) dX11_alike_48 zf_X11_361 k_75 rfl (by decide) rfl ?_
      refine z_if_eq (tgt := 61) dX11_alike_51 (by decide) (fun q13 => ?_) (fun q14 => ?_)
      · refine z_bipush dX11_alike_61 (by decide) ?_
        exact z_ireturn dX11_alike_63 rfl rfl ⟨_, rfl, (h12.2.1 q13)⟩
      · refine z_aload_n dX11_alike_54 rfl ?_
        refine n_getf (ji := 4) (t := 0) dX11_alike_55 zf_X11_364 (r_102_k h12.1) rfl (by decide) rfl ?_
        refine z_if_ne (tgt := 64) dX11_alike_58 (by decide) (fun q15 => ?_) (fun q16 => ?_)
        · refine z_aload_n dX11_alike_64 rfl ?_
          refine n_getp (ji := 10) dX11_alike_65 zf_X11_78 k_1 rfl (by decide) rfl p_1_10 ?_
          refine z_aload_n dX11_alike_68 rfl ?_
          refine n_getp (ji := 5) dX11_alike_69 zf_X11_365 (r_102_k h12.1) rfl (by decide) rfl (s_7_5_p (r_102_k h12.1)) ?_
          refine z_aload_n dX11_alike_72 rfl ?_
          refine n_getf (ji := 4) (t := 0) dX11_alike_73 zf_X11_364 (r_102_k h12.1) rfl (by decide) rfl ?_
          refine n_vI (as := [(2, ((103 + 5 * a) + 4)), (0, m11 (103 + 5 * a) 4)]) (rest := []) dX11_alike_76 zm_X8_isSame zs_X11_368 k_75 (by decide) rfl rfl (Nat.le_of_ble_eq_true rfl) (Nat.le_of_ble_eq_true rfl) ((h12.2.2 q14).1 q15) (fun x19 m17 h18 => ?_)
          refine z_if_eq (tgt := 86) dX11_alike_79 (by decide) (fun q20 => ?_) (fun q21 => ?_)
          · refine z_iconst dX11_alike_86 ⟨by decide, by decide⟩ ?_
            exact z_ireturn dX11_alike_87 rfl rfl ⟨_, rfl, (h18.1 q20)⟩
          · refine z_iconst dX11_alike_82 ⟨by decide, by decide⟩ ?_
            refine z_goto (tgt := 87) dX11_alike_83 (by decide) ?_
            exact z_ireturn dX11_alike_87 rfl rfl ⟨_, rfl, (h18.2 q21)⟩
        · refine z_bipush dX11_alike_61 (by decide) ?_
          exact z_ireturn dX11_alike_63 rfl rfl ⟨_, rfl, ((h12.2.2 q14).2 q16)⟩
    · refine z_iconst dX11_alike_20 ⟨by decide, by decide⟩ ?_
      exact z_ireturn dX11_alike_21 rfl rfl ⟨_, rfl, ((h2.2 q5).2.2 q7)⟩
set_option maxRecDepth 20000 in
theorem V_X11_best {a : Int}  {μ : z_Mem} {d : Nat} {K : Int → z_Mem → Prop} (h : (a < 0 → K (-1) μ) ∧ (0 ≤ a → (2 < a → K (-1) μ) ∧ (a ≤ 2 → z_ci m_X11_allJoined [(2, 1)] μ d (fun x7 m5 => (¬ x7 = 0 → z_cn m_X10_look [(2, 29), (2, 21)] m5 d (fun m10 => (¬ m10 29 1 = (-1) → (¬ a = 0 → (¬ a = 1 → K (m10 29 3) m10) ∧ (a = 1 → K (m10 29 2) m10)) ∧ (a = 0 → K (m10 29 1) m10)) ∧ (m10 29 1 = (-1) → K (-2) m10))) ∧ (x7 = 0 → K (-1) m5))))) : z_ci m_X11_best [(2, 1), (0, a)] μ (d + 1) K := by
  show z_R m_X11_best 0 [some (2, 1), some (0, a)] [] z_n μ (d + 1) _
  refine z_iload_n dX11_best_0 rfl ?_
  refine z_if_lt (tgt := 16) dX11_best_1 (by decide) (fun q1 => ?_) (fun q2 => ?_)
  · refine z_iconst dX11_best_16 ⟨by decide, by decide⟩ ?_
    exact z_ireturn dX11_best_17 rfl rfl ⟨_, rfl, (h.1 q1)⟩
  · refine z_iload_n dX11_best_4 rfl ?_
    refine z_iconst dX11_best_5 ⟨by decide, by decide⟩ ?_
    refine z_icmp_gt (tgt := 16) dX11_best_6 (by decide) (fun q3 => ?_) (fun q4 => ?_)
    · refine z_iconst dX11_best_16 ⟨by decide, by decide⟩ ?_
      exact z_ireturn dX11_best_17 rfl rfl ⟨_, rfl, ((h.2 q2).1 q3)⟩
    · refine z_aload_n dX11_best_9 rfl ?_
      refine n_vI (as := []) (rest := []) dX11_best_10 zm_X11_allJoined zs_X11_184 k_1 (by decide) rfl rfl (Nat.le_of_ble_eq_true rfl) (Nat.le_of_ble_eq_true rfl) ((h.2 q2).2 q4) (fun x7 m5 h6 => ?_)
      refine z_if_ne (tgt := 18) dX11_best_13 (by decide) (fun q8 => ?_) (fun q9 => ?_)
      · refine z_aload_n dX11_best_18 rfl ?_
        refine n_getp (ji := 6) dX11_best_19 zf_X11_50 k_1 rfl (by decide) rfl p_1_6 ?_
        refine z_aload_n dX11_best_22 rfl ?_
        refine n_getp (ji := 4) dX11_best_23 zf_X11_34 k_1 rfl (by decide) rfl p_1_4 ?_
        refine n_vN (as := [(2, 21)]) (rest := []) dX11_best_26 zm_X10_look zs_X11_195 k_29 (by decide) rfl rfl (Nat.le_of_ble_eq_true rfl) (Nat.le_of_ble_eq_true rfl) (h6.1 q8) (fun m10 h11 => ?_)
        refine z_aload_n dX11_best_29 rfl ?_
        refine n_getp (ji := 6) dX11_best_30 zf_X11_50 k_1 rfl (by decide) rfl p_1_6 ?_
        refine n_getf (ji := 1) (t := 0) dX11_best_33 zf_X11_198 k_29 rfl (by decide) rfl ?_
        refine z_iconst dX11_best_36 ⟨by decide, by decide⟩ ?_
        refine z_icmp_ne (tgt := 43) dX11_best_37 (by decide) (fun q12 => ?_) (fun q13 => ?_)
        · refine z_iload_n dX11_best_43 rfl ?_
          refine z_if_ne (tgt := 55) dX11_best_44 (by decide) (fun q14 => ?_) (fun q15 => ?_)
          · refine z_iload_n dX11_best_55 rfl ?_
            refine z_iconst dX11_best_56 ⟨by decide, by decide⟩ ?_
            refine z_icmp_ne (tgt := 70) dX11_best_57 (by decide) (fun q16 => ?_) (fun q17 => ?_)
            · refine z_aload_n dX11_best_70 rfl ?_
              refine n_getp (ji := 6) dX11_best_71 zf_X11_50 k_1 rfl (by decide) rfl p_1_6 ?_
              refine n_getf (ji := 3) (t := 0) dX11_best_74 zf_X11_201 k_29 rfl (by decide) rfl ?_
              exact z_ireturn dX11_best_77 rfl rfl ⟨_, rfl, (((h11.1 q12).1 q14).1 q16)⟩
            · refine z_aload_n dX11_best_60 rfl ?_
              refine n_getp (ji := 6) dX11_best_61 zf_X11_50 k_1 rfl (by decide) rfl p_1_6 ?_
              refine n_getf (ji := 2) (t := 0) dX11_best_64 zf_X11_204 k_29 rfl (by decide) rfl ?_
              refine z_goto (tgt := 77) dX11_best_67 (by decide) ?_
              exact z_ireturn dX11_best_77 rfl rfl ⟨_, rfl, (((h11.1 q12).1 q14).2 q17)⟩
          · refine z_aload_n dX11_best_47 rfl ?_
            refine n_getp (ji := 6) dX11_best_48 zf_X11_50 k_1 rfl (by decide) rfl p_1_6 ?_
            refine n_getf (ji := 1) (t := 0) dX11_best_51 zf_X11_198 k_29 rfl (by decide) rfl ?_
            exact z_ireturn dX11_best_54 rfl rfl ⟨_, rfl, ((h11.1 q12).2 q15)⟩
        · refine z_bipush dX11_best_40 (by decide) ?_
          exact z_ireturn dX11_best_42 rfl rfl ⟨_, rfl, (h11.2 q13)⟩
      · refine z_iconst dX11_best_16 ⟨by decide, by decide⟩ ?_
        exact z_ireturn dX11_best_17 rfl rfl ⟨_, rfl, (h6.2 q9)⟩
set_option maxRecDepth 20000 in
theorem V_X11_count {a : Int}  {μ : z_Mem} {d : Nat} {K : Int → z_Mem → Prop} (h : (a = 0 → K (μ 6 0) μ) ∧ (a = 1 → K (μ 6 2) μ) ∧ (a = 2 → K (μ 6 8) μ) ∧ (a = 3 → K (μ 6 11) μ) ∧ (a = 4 → z_ci m_X3_howMany [(2, 21)] μ d (fun x7 m5 => K x7 m5)) ∧ (a = 5 → K (μ 21 1) μ) ∧ (a = 6 → K (μ 23 6) μ) ∧ (a = 7 → K (μ 80 0) μ) ∧ (a = 8 → K (μ 1 1) μ) ∧ (a = 9 → z_ci m_X11_keptBits [(2, 1)] μ d (fun x10 m8 => K x10 m8)) ∧ (a = 10 → z_ci m_X3_howMany [(2, 21)] μ d (fun x13 m11 => z_I ((μ 6 8) - x13) ∧ (z_ci m_X11_free [(2, 1), (0, (-1))] m11 d (fun x16 m14 => z_I (((μ 6 8) - x13) - x16) ∧ (K (((μ 6 8) - x13) - x16) m14))))) ∧ (a < 0 ∨ 10 < a → K (-1) μ)) : z_ci m_X11_count [(2, 1), (0, a)] μ (d + 1) K := by
  show z_R m_X11_count 0 [some (2, 1), some (0, a)] [] z_n μ (d + 1) _
  refine z_iload_n dX11_count_0 rfl ?_
  refine z_table dX11_count_1 [60, 68, 76, 84, 92, 100, 108, 116, 124, 129, 134] 156 (by decide) (by decide) (by decide) (fun i1 q2 q3 => ?_) (fun q4 => ?_)
  · match i1, q2, q3 with
    | 0, _, q3 =>
      refine z_aload_n dX11_count_60 rfl ?_
      refine n_getp (ji := 3) dX11_count_61 zf_X11_27 k_1 rfl (by decide) rfl p_1_3 ?_
      refine n_getf (ji := 0) (t := 0) dX11_count_64 zf_X11_372 k_6 rfl (by decide) rfl ?_
      exact z_ireturn dX11_count_67 rfl rfl ⟨_, rfl, (h.1 (by simpa using q3))⟩
    | 1, _, q3 =>
      refine z_aload_n dX11_count_68 rfl ?_
      refine n_getp (ji := 3) dX11_count_69 zf_X11_27 k_1 rfl (by decide) rfl p_1_3 ?_
      refine n_getf (ji := 2) (t := 0) dX11_count_72 zf_X11_123 k_6 rfl (by decide) rfl ?_
      exact z_ireturn dX11_count_75 rfl rfl ⟨_, rfl, (h.2.1 (by simpa using q3))⟩
    | 2, _, q3 =>
      refine z_aload_n dX11_count_76 rfl ?_
      refine n_getp (ji := 3) dX11_count_77 zf_X11_27 k_1 rfl (by decide) rfl p_1_3 ?_
      refine n_getf (ji := 8) (t := 0) dX11_count_80 zf_X11_172 k_6 rfl (by decide) rfl ?_
      exact z_ireturn dX11_count_83 rfl rfl ⟨_, rfl, (h.2.2.1 (by simpa using q3))⟩
    | 3, _, q3 =>
      refine z_aload_n dX11_count_84 rfl ?_
      refine n_getp (ji := 3) dX11_count_85 zf_X11_27 k_1 rfl (by decide) rfl p_1_3 ?_
      refine n_getf (ji := 11) (t := 0) dX11_count_88 zf_X11_373 k_6 rfl (by decide) rfl ?_
      exact z_ireturn dX11_count_91 rfl rfl ⟨_, rfl, (h.2.2.2.1 (by simpa using q3))⟩
    | 4, _, q3 =>
      refine z_aload_n dX11_count_92 rfl ?_
      refine n_getp (ji := 4) dX11_count_93 zf_X11_34 k_1 rfl (by decide) rfl p_1_4 ?_
      refine n_vI (as := []) (rest := []) dX11_count_96 zm_X3_howMany zs_X11_152 k_21 (by decide) rfl rfl (Nat.le_of_ble_eq_true rfl) (Nat.le_of_ble_eq_true rfl) (h.2.2.2.2.1 (by simpa using q3)) (fun x7 m5 h6 => ?_)
      exact z_ireturn dX11_count_99 rfl rfl ⟨_, rfl, h6⟩
    | 5, _, q3 =>
      refine z_aload_n dX11_count_100 rfl ?_
      refine n_getp (ji := 4) dX11_count_101 zf_X11_34 k_1 rfl (by decide) rfl p_1_4 ?_
      refine n_getf (ji := 1) (t := 0) dX11_count_104 zf_X11_162 k_21 rfl (by decide) rfl ?_
      exact z_ireturn dX11_count_107 rfl rfl ⟨_, rfl, (h.2.2.2.2.2.1 (by simpa using q3))⟩
    | 6, _, q3 =>
      refine z_aload_n dX11_count_108 rfl ?_
      refine n_getp (ji := 5) dX11_count_109 zf_X11_41 k_1 rfl (by decide) rfl p_1_5 ?_
      refine n_getf (ji := 6) (t := 0) dX11_count_112 zf_X11_294 k_23 rfl (by decide) rfl ?_
      exact z_ireturn dX11_count_115 rfl rfl ⟨_, rfl, (h.2.2.2.2.2.2.1 (by simpa using q3))⟩
    | 7, _, q3 =>
      refine z_aload_n dX11_count_116 rfl ?_
      refine n_getp (ji := 11) dX11_count_117 zf_X11_85 k_1 rfl (by decide) rfl p_1_11 ?_
      refine n_getf (ji := 0) (t := 0) dX11_count_120 zf_X11_216 k_80 rfl (by decide) rfl ?_
      exact z_ireturn dX11_count_123 rfl rfl ⟨_, rfl, (h.2.2.2.2.2.2.2.1 (by simpa using q3))⟩
    | 8, _, q3 =>
      refine z_aload_n dX11_count_124 rfl ?_
      refine n_getf (ji := 1) (t := 0) dX11_count_125 zf_X11_13 k_1 rfl (by decide) rfl ?_
      exact z_ireturn dX11_count_128 rfl rfl ⟨_, rfl, (h.2.2.2.2.2.2.2.2.1 (by simpa using q3))⟩
    | 9, _, q3 =>
      refine z_aload_n dX11_count_129 rfl ?_
      refine n_vI (as := []) (rest := []) dX11_count_130 zm_X11_keptBits zs_X11_376 k_1 (by decide) rfl rfl (Nat.le_of_ble_eq_true rfl) (Nat.le_of_ble_eq_true rfl) (h.2.2.2.2.2.2.2.2.2.1 (by simpa using q3)) (fun x10 m8 h9 => ?_)
      exact z_ireturn dX11_count_133 rfl rfl ⟨_, rfl, h9⟩
    | 10, _, q3 =>
      refine z_aload_n dX11_count_134 rfl ?_
      refine n_getp (ji := 3) dX11_count_135 zf_X11_27 k_1 rfl (by decide) rfl p_1_3 ?_
      refine n_getf (ji := 8) (t := 0) dX11_count_138 zf_X11_172 k_6 rfl (by decide) rfl ?_
      refine z_aload_n dX11_count_141 rfl ?_
      refine n_getp (ji := 4) dX11_count_142 zf_X11_34 k_1 rfl (by decide) rfl p_1_4 ?_
      refine n_vI (as := []) (rest := [(0, μ 6 8)]) dX11_count_145 zm_X3_howMany zs_X11_152 k_21 (by decide) rfl rfl (Nat.le_of_ble_eq_true rfl) (Nat.le_of_ble_eq_true rfl) (h.2.2.2.2.2.2.2.2.2.2.1 (by simpa using q3)) (fun x13 m11 h12 => ?_)
      refine z_isub dX11_count_148 h12.1 ?_
      refine z_aload_n dX11_count_149 rfl ?_
      refine z_iconst dX11_count_150 ⟨by decide, by decide⟩ ?_
      refine n_vI (as := [(0, (-1))]) (rest := [(0, (μ 6 8) - x13)]) dX11_count_151 zm_X11_free zs_X11_379 k_1 (by decide) rfl rfl (Nat.le_of_ble_eq_true rfl) (Nat.le_of_ble_eq_true rfl) h12.2 (fun x16 m14 h15 => ?_)
      refine z_isub dX11_count_154 h15.1 ?_
      exact z_ireturn dX11_count_155 rfl rfl ⟨_, rfl, h15.2⟩
    | i1 + 11, q2, _ => exact absurd q2 (by simp)
  · refine z_iconst dX11_count_156 ⟨by decide, by decide⟩ ?_
    exact z_ireturn dX11_count_157 rfl rfl ⟨_, rfl, (h.2.2.2.2.2.2.2.2.2.2.2 q4)⟩
set_option maxRecDepth 20000 in
theorem V_X11_keptBits  {μ : z_Mem} {d : Nat} {K : Int → z_Mem → Prop} (h : z_ri m_X11_keptBits 4 [some (2, 1), some (0, 0), some (0, 0)] μ d K) : z_ci m_X11_keptBits [(2, 1)] μ d K := by
  show z_R m_X11_keptBits 0 [some (2, 1), none, none] [] z_n μ d _
  refine z_iconst dX11_keptBits_0 ⟨by decide, by decide⟩ ?_
  refine n_istore_n (lo' := [some (2, 1), some (0, 0), none]) dX11_keptBits_1 ⟨Nat.le_of_ble_eq_true rfl, Nat.le_of_ble_eq_true rfl⟩ rfl ?_
  refine z_iconst dX11_keptBits_2 ⟨by decide, by decide⟩ ?_
  refine n_istore_n (lo' := [some (2, 1), some (0, 0), some (0, 0)]) dX11_keptBits_3 ⟨Nat.le_of_ble_eq_true rfl, Nat.le_of_ble_eq_true rfl⟩ rfl ?_
  refine z_drop [some (2, 1), some (0, 0), some (0, 0)] ⟨rfl, rfl, rfl, trivial⟩ ?_
  exact h
set_option maxRecDepth 20000 in
theorem V_X11_keptBits_4 {v1 v2 : Int}  {μ : z_Mem} {d : Nat} {K : Int → z_Mem → Prop} (h : (2 ≤ v2 → K v1 μ) ∧ (v2 < 2 → ((0 : Int) ≤ v2 ∧ v2 < 2) ∧ ((μ (103 + 5 * v2) 0 = 0 → z_I (v2 + 1) ∧ (z_ri m_X11_keptBits 4 [some (2, 1), some (0, v1), some (0, v2 + 1)] μ d K)) ∧ (¬ μ (103 + 5 * v2) 0 = 0 → ((0 : Int) ≤ v2 ∧ v2 < 31) ∧ (((0 : Int) ≤ v1 ∧ (0 : Int) ≤ (2 : Int) ^ (v2 : Int).toNat) ∧ (z_I (v2 + 1) ∧ (z_ri m_X11_keptBits 4 [some (2, 1), some (0, ((((v1 : Int).toNat ||| ((2 : Int) ^ (v2 : Int).toNat : Int).toNat : Nat)) : Int)), some (0, v2 + 1)] μ d K))))))) : z_ri m_X11_keptBits 4 [some (2, 1), some (0, v1), some (0, v2)] μ d K := by
  show z_R m_X11_keptBits 4 [some (2, 1), some (0, v1), some (0, v2)] [] z_n μ d _
  refine z_iload_n dX11_keptBits_4 rfl ?_
  refine z_iconst dX11_keptBits_5 ⟨by decide, by decide⟩ ?_
  refine z_icmp_ge (tgt := 33) dX11_keptBits_6 (by decide) (fun q1 => ?_) (fun q2 => ?_)
  · refine z_iload_n dX11_keptBits_33 rfl ?_
    exact z_ireturn dX11_keptBits_34 rfl rfl ⟨_, rfl, (h.1 q1)⟩
  · refine z_aload_n dX11_keptBits_9 rfl ?_
    refine n_getp (ji := 12) dX11_keptBits_10 zf_X11_91 k_1 rfl (by decide) rfl p_1_12 ?_
    refine z_iload_n dX11_keptBits_13 rfl ?_
    refine n_aaldS dX11_keptBits_14 k_102 (h.2 q2).1 (r_102_p (h.2 q2).1) ?_
    refine n_getf (ji := 0) (t := 0) dX11_keptBits_15 zf_X11_233 (r_102_k (h.2 q2).1) rfl (by decide) rfl ?_
    refine z_if_eq (tgt := 27) dX11_keptBits_18 (by decide) (fun q3 => ?_) (fun q4 => ?_)
    · refine n_iinc (lo' := [some (2, 1), some (0, v1), some (0, v2 + 1)]) dX11_keptBits_27 rfl (by decide) ((h.2 q2).2.1 q3).1 rfl ?_
      refine z_goto (tgt := 4) dX11_keptBits_30 (by decide) ?_
      refine z_drop [some (2, 1), some (0, v1), some (0, v2 + 1)] ⟨rfl, rfl, rfl, trivial⟩ ?_
      exact ((h.2 q2).2.1 q3).2
    · refine z_iload_n dX11_keptBits_21 rfl ?_
      refine z_iconst dX11_keptBits_22 ⟨by decide, by decide⟩ ?_
      refine z_iload_n dX11_keptBits_23 rfl ?_
      refine n_ishl1 dX11_keptBits_24 ((h.2 q2).2.2 q4).1 ?_
      refine z_ior dX11_keptBits_25 ((h.2 q2).2.2 q4).2.1.1 ((h.2 q2).2.2 q4).2.1.2 ?_
      refine n_istore_n (lo' := [some (2, 1), some (0, ((((v1 : Int).toNat ||| ((2 : Int) ^ (v2 : Int).toNat : Int).toNat : Nat)) : Int)), some (0, v2)]) dX11_keptBits_26 ⟨Nat.le_of_ble_eq_true rfl, Nat.le_of_ble_eq_true rfl⟩ rfl ?_
      refine n_iinc (lo' := [some (2, 1), some (0, ((((v1 : Int).toNat ||| ((2 : Int) ^ (v2 : Int).toNat : Int).toNat : Nat)) : Int)), some (0, v2 + 1)]) dX11_keptBits_27 rfl (by decide) ((h.2 q2).2.2 q4).2.2.1 rfl ?_
      refine z_goto (tgt := 4) dX11_keptBits_30 (by decide) ?_
      refine z_drop [some (2, 1), some (0, ((((v1 : Int).toNat ||| ((2 : Int) ^ (v2 : Int).toNat : Int).toNat : Nat)) : Int)), some (0, v2 + 1)] ⟨rfl, rfl, rfl, trivial⟩ ?_
      exact ((h.2 q2).2.2 q4).2.2.2
set_option maxRecDepth 20000 in
theorem V_X11_settle  {μ : z_Mem} {d : Nat} {K : z_Mem → Prop} (h : z_cn m_X6_lay [(2, 23), (2, 6), (2, 21)] μ d (fun m1 => K (z_st (z_st (z_st m1 29 0 0) 39 0 0) 44 0 0))) : z_cn m_X11_settle [(2, 1)] μ (d + 1) K := by
  show z_R m_X11_settle 0 [some (2, 1)] [] z_n μ (d + 1) _
  refine z_aload_n dX11_settle_0 rfl ?_
  refine n_getp (ji := 5) dX11_settle_1 zf_X11_41 k_1 rfl (by decide) rfl p_1_5 ?_
  refine z_aload_n dX11_settle_4 rfl ?_
  refine n_getp (ji := 3) dX11_settle_5 zf_X11_27 k_1 rfl (by decide) rfl p_1_3 ?_
  refine z_aload_n dX11_settle_8 rfl ?_
  refine n_getp (ji := 4) dX11_settle_9 zf_X11_34 k_1 rfl (by decide) rfl p_1_4 ?_
  refine n_vN (as := [(2, 6), (2, 21)]) (rest := []) dX11_settle_12 zm_X6_lay zs_X11_382 k_23 (by decide) rfl rfl (Nat.le_of_ble_eq_true rfl) (Nat.le_of_ble_eq_true rfl) h (fun m1 h2 => ?_)
  refine z_aload_n dX11_settle_15 rfl ?_
  refine n_getp (ji := 6) dX11_settle_16 zf_X11_50 k_1 rfl (by decide) rfl p_1_6 ?_
  refine z_iconst dX11_settle_19 ⟨by decide, by decide⟩ ?_
  refine n_putZ (ji := 0) dX11_settle_20 zf_X11_386 k_29 rfl (by decide) rfl (by decide) ?_
  refine z_aload_n dX11_settle_23 rfl ?_
  refine n_getp (ji := 8) dX11_settle_24 zf_X11_64 k_1 rfl (by decide) rfl p_1_8 ?_
  refine z_iconst dX11_settle_27 ⟨by decide, by decide⟩ ?_
  refine n_putZ (ji := 0) dX11_settle_28 zf_X11_389 k_39 rfl (by decide) rfl (by decide) ?_
  refine z_aload_n dX11_settle_31 rfl ?_
  refine n_getp (ji := 9) dX11_settle_32 zf_X11_71 k_1 rfl (by decide) rfl p_1_9 ?_
  refine z_iconst dX11_settle_35 ⟨by decide, by decide⟩ ?_
  refine n_putZ (ji := 0) dX11_settle_36 zf_X11_390 k_44 rfl (by decide) rfl (by decide) ?_
  exact z_return dX11_settle_39 rfl rfl ⟨rfl, h2⟩
set_option maxRecDepth 20000 in
theorem V_X11_isFace {a : Int}  {μ : z_Mem} {d : Nat} {K : Int → z_Mem → Prop} (h : (a < 0 → K 0 μ) ∧ (0 ≤ a → (μ 6 2 ≤ a → K 0 μ) ∧ (a < μ 6 2 → K 1 μ))) : z_ci m_X11_isFace [(2, 1), (0, a)] μ d K := by
  show z_R m_X11_isFace 0 [some (2, 1), some (0, a)] [] z_n μ d _
  refine z_iload_n dX11_isFace_0 rfl ?_
  refine z_if_lt (tgt := 19) dX11_isFace_1 (by decide) (fun q1 => ?_) (fun q2 => ?_)
  · refine z_iconst dX11_isFace_19 ⟨by decide, by decide⟩ ?_
    exact z_zreturn dX11_isFace_20 rfl rfl (by decide) ⟨_, rfl, (h.1 q1)⟩
  · refine z_iload_n dX11_isFace_4 rfl ?_
    refine z_aload_n dX11_isFace_5 rfl ?_
    refine n_getp (ji := 3) dX11_isFace_6 zf_X11_27 k_1 rfl (by decide) rfl p_1_3 ?_
    refine n_getf (ji := 2) (t := 0) dX11_isFace_9 zf_X11_123 k_6 rfl (by decide) rfl ?_
    refine z_icmp_ge (tgt := 19) dX11_isFace_12 (by decide) (fun q3 => ?_) (fun q4 => ?_)
    · refine z_iconst dX11_isFace_19 ⟨by decide, by decide⟩ ?_
      exact z_zreturn dX11_isFace_20 rfl rfl (by decide) ⟨_, rfl, ((h.2 q2).1 q3)⟩
    · refine z_iconst dX11_isFace_15 ⟨by decide, by decide⟩ ?_
      refine z_goto (tgt := 20) dX11_isFace_16 (by decide) ?_
      exact z_zreturn dX11_isFace_20 rfl rfl (by decide) ⟨_, rfl, ((h.2 q2).2 q4)⟩
set_option maxRecDepth 20000 in
theorem V_X11_isEdge {a : Int}  {μ : z_Mem} {d : Nat} {K : Int → z_Mem → Prop} (h : (a < 0 → K 0 μ) ∧ (0 ≤ a → (μ 6 8 ≤ a → K 0 μ) ∧ (a < μ 6 8 → K 1 μ))) : z_ci m_X11_isEdge [(2, 1), (0, a)] μ d K := by
  show z_R m_X11_isEdge 0 [some (2, 1), some (0, a)] [] z_n μ d _
  refine z_iload_n dX11_isEdge_0 rfl ?_
  refine z_if_lt (tgt := 19) dX11_isEdge_1 (by decide) (fun q1 => ?_) (fun q2 => ?_)
  · refine z_iconst dX11_isEdge_19 ⟨by decide, by decide⟩ ?_
    exact z_zreturn dX11_isEdge_20 rfl rfl (by decide) ⟨_, rfl, (h.1 q1)⟩
  · refine z_iload_n dX11_isEdge_4 rfl ?_
    refine z_aload_n dX11_isEdge_5 rfl ?_
    refine n_getp (ji := 3) dX11_isEdge_6 zf_X11_27 k_1 rfl (by decide) rfl p_1_3 ?_
    refine n_getf (ji := 8) (t := 0) dX11_isEdge_9 zf_X11_172 k_6 rfl (by decide) rfl ?_
    refine z_icmp_ge (tgt := 19) dX11_isEdge_12 (by decide) (fun q3 => ?_) (fun q4 => ?_)
    · refine z_iconst dX11_isEdge_19 ⟨by decide, by decide⟩ ?_
      exact z_zreturn dX11_isEdge_20 rfl rfl (by decide) ⟨_, rfl, ((h.2 q2).1 q3)⟩
    · refine z_iconst dX11_isEdge_15 ⟨by decide, by decide⟩ ?_
      refine z_goto (tgt := 20) dX11_isEdge_16 (by decide) ?_
      exact z_zreturn dX11_isEdge_20 rfl rfl (by decide) ⟨_, rfl, ((h.2 q2).2 q4)⟩
set_option maxRecDepth 20000 in
theorem V_X11_isVertex {a : Int}  {μ : z_Mem} {d : Nat} {K : Int → z_Mem → Prop} (h : (a < 0 → K 0 μ) ∧ (0 ≤ a → (μ 6 11 ≤ a → K 0 μ) ∧ (a < μ 6 11 → K 1 μ))) : z_ci m_X11_isVertex [(2, 1), (0, a)] μ d K := by
  show z_R m_X11_isVertex 0 [some (2, 1), some (0, a)] [] z_n μ d _
  refine z_iload_n dX11_isVertex_0 rfl ?_
  refine z_if_lt (tgt := 19) dX11_isVertex_1 (by decide) (fun q1 => ?_) (fun q2 => ?_)
  · refine z_iconst dX11_isVertex_19 ⟨by decide, by decide⟩ ?_
    exact z_zreturn dX11_isVertex_20 rfl rfl (by decide) ⟨_, rfl, (h.1 q1)⟩
  · refine z_iload_n dX11_isVertex_4 rfl ?_
    refine z_aload_n dX11_isVertex_5 rfl ?_
    refine n_getp (ji := 3) dX11_isVertex_6 zf_X11_27 k_1 rfl (by decide) rfl p_1_3 ?_
    refine n_getf (ji := 11) (t := 0) dX11_isVertex_9 zf_X11_373 k_6 rfl (by decide) rfl ?_
    refine z_icmp_ge (tgt := 19) dX11_isVertex_12 (by decide) (fun q3 => ?_) (fun q4 => ?_)
    · refine z_iconst dX11_isVertex_19 ⟨by decide, by decide⟩ ?_
      exact z_zreturn dX11_isVertex_20 rfl rfl (by decide) ⟨_, rfl, ((h.2 q2).1 q3)⟩
    · refine z_iconst dX11_isVertex_15 ⟨by decide, by decide⟩ ?_
      refine z_goto (tgt := 20) dX11_isVertex_16 (by decide) ?_
      exact z_zreturn dX11_isVertex_20 rfl rfl (by decide) ⟨_, rfl, ((h.2 q2).2 q4)⟩
set_option maxRecDepth 20000 in
theorem V_X11_isShelf {a : Int}  {μ : z_Mem} {d : Nat} {K : Int → z_Mem → Prop} (h : (a < 0 → K 0 μ) ∧ (0 ≤ a → (2 ≤ a → K 0 μ) ∧ (a < 2 → K 1 μ))) : z_ci m_X11_isShelf [(2, 1), (0, a)] μ d K := by
  show z_R m_X11_isShelf 0 [some (2, 1), some (0, a)] [] z_n μ d _
  refine z_iload_n dX11_isShelf_0 rfl ?_
  refine z_if_lt (tgt := 13) dX11_isShelf_1 (by decide) (fun q1 => ?_) (fun q2 => ?_)
  · refine z_iconst dX11_isShelf_13 ⟨by decide, by decide⟩ ?_
    exact z_zreturn dX11_isShelf_14 rfl rfl (by decide) ⟨_, rfl, (h.1 q1)⟩
  · refine z_iload_n dX11_isShelf_4 rfl ?_
    refine z_iconst dX11_isShelf_5 ⟨by decide, by decide⟩ ?_
    refine z_icmp_ge (tgt := 13) dX11_isShelf_6 (by decide) (fun q3 => ?_) (fun q4 => ?_)
    · refine z_iconst dX11_isShelf_13 ⟨by decide, by decide⟩ ?_
      exact z_zreturn dX11_isShelf_14 rfl rfl (by decide) ⟨_, rfl, ((h.2 q2).1 q3)⟩
    · refine z_iconst dX11_isShelf_9 ⟨by decide, by decide⟩ ?_
      refine z_goto (tgt := 14) dX11_isShelf_10 (by decide) ?_
      exact z_zreturn dX11_isShelf_14 rfl rfl (by decide) ⟨_, rfl, ((h.2 q2).2 q4)⟩
set_option maxRecDepth 20000 in
theorem V_X11_isFree {a : Int}  {μ : z_Mem} {d : Nat} {K : Int → z_Mem → Prop} (h : z_ci m_X3_isHinge [(2, 21), (0, a)] μ d (fun x3 m1 => (¬ x3 = 0 → K 0 m1) ∧ (x3 = 0 → z_I (2 * a) ∧ (((0 : Int) ≤ 2 * a ∧ 2 * a < 120) ∧ (z_I (2 * a) ∧ (z_I ((2 * a) + 1) ∧ (((0 : Int) ≤ (2 * a) + 1 ∧ (2 * a) + 1 < 120) ∧ (z_ci m_X6_meet [(2, 23), (0, m1 13 (2 * a)), (0, m1 13 ((2 * a) + 1))] m1 d (fun x8 m6 => (x8 = 0 → K 0 m6) ∧ (¬ x8 = 0 → K 1 m6)))))))))) : z_ci m_X11_isFree [(2, 1), (0, a)] μ (d + 1) K := by
  show z_R m_X11_isFree 0 [some (2, 1), some (0, a)] [] z_n μ (d + 1) _
  refine z_aload_n dX11_isFree_0 rfl ?_
  refine n_getp (ji := 4) dX11_isFree_1 zf_X11_34 k_1 rfl (by decide) rfl p_1_4 ?_
  refine z_iload_n dX11_isFree_4 rfl ?_
  refine n_vI (as := [(0, a)]) (rest := []) dX11_isFree_5 zm_X3_isHinge zs_X11_130 k_21 (by decide) rfl rfl (Nat.le_of_ble_eq_true rfl) (Nat.le_of_ble_eq_true rfl) h (fun x3 m1 h2 => ?_)
  refine z_if_ne (tgt := 49) dX11_isFree_8 (by decide) (fun q4 => ?_) (fun q5 => ?_)
  · refine z_iconst dX11_isFree_49 ⟨by decide, by decide⟩ ?_
    exact z_zreturn dX11_isFree_50 rfl rfl (by decide) ⟨_, rfl, (h2.1 q4)⟩
  · refine z_aload_n dX11_isFree_11 rfl ?_
    refine n_getp (ji := 5) dX11_isFree_12 zf_X11_41 k_1 rfl (by decide) rfl p_1_5 ?_
    refine z_aload_n dX11_isFree_15 rfl ?_
    refine n_getp (ji := 3) dX11_isFree_16 zf_X11_27 k_1 rfl (by decide) rfl p_1_3 ?_
    refine n_getp (ji := 9) dX11_isFree_19 zf_X11_261 k_6 rfl (by decide) rfl p_6_9 ?_
    refine z_iconst dX11_isFree_22 ⟨by decide, by decide⟩ ?_
    refine z_iload_n dX11_isFree_23 rfl ?_
    refine z_imul dX11_isFree_24 (h2.2 q5).1 ?_
    refine n_iald dX11_isFree_25 k_13 (h2.2 q5).2.1 ?_
    refine z_aload_n dX11_isFree_26 rfl ?_
    refine n_getp (ji := 3) dX11_isFree_27 zf_X11_27 k_1 rfl (by decide) rfl p_1_3 ?_
    refine n_getp (ji := 9) dX11_isFree_30 zf_X11_261 k_6 rfl (by decide) rfl p_6_9 ?_
    refine z_iconst dX11_isFree_33 ⟨by decide, by decide⟩ ?_
    refine z_iload_n dX11_isFree_34 rfl ?_
    refine z_imul dX11_isFree_35 (h2.2 q5).2.2.1 ?_
    refine z_iconst dX11_isFree_36 ⟨by decide, by decide⟩ ?_
    refine z_iadd dX11_isFree_37 (h2.2 q5).2.2.2.1 ?_
    refine n_iald dX11_isFree_38 k_13 (h2.2 q5).2.2.2.2.1 ?_
    refine n_vI (as := [(0, m1 13 (2 * a)), (0, m1 13 ((2 * a) + 1))]) (rest := []) dX11_isFree_39 zm_X6_meet zs_X11_391 k_23 (by decide) rfl rfl (Nat.le_of_ble_eq_true rfl) (Nat.le_of_ble_eq_true rfl) (h2.2 q5).2.2.2.2.2 (fun x8 m6 h7 => ?_)
    refine z_if_eq (tgt := 49) dX11_isFree_42 (by decide) (fun q9 => ?_) (fun q10 => ?_)
    · refine z_iconst dX11_isFree_49 ⟨by decide, by decide⟩ ?_
      exact z_zreturn dX11_isFree_50 rfl rfl (by decide) ⟨_, rfl, (h7.1 q9)⟩
    · refine z_iconst dX11_isFree_45 ⟨by decide, by decide⟩ ?_
      refine z_goto (tgt := 50) dX11_isFree_46 (by decide) ?_
      exact z_zreturn dX11_isFree_50 rfl rfl (by decide) ⟨_, rfl, (h7.2 q10)⟩
set_option maxRecDepth 20000 in
theorem V_X11_allJoined  {μ : z_Mem} {d : Nat} {K : Int → z_Mem → Prop} (h : (μ 6 2 ≤ 0 → K 0 μ) ∧ (0 < μ 6 2 → z_ci m_X3_howMany [(2, 21)] μ d (fun x5 m3 => z_I ((m3 6 2) - 1) ∧ ((¬ x5 = (m3 6 2) - 1 → K 0 m3) ∧ (x5 = (m3 6 2) - 1 → K 1 m3))))) : z_ci m_X11_allJoined [(2, 1)] μ (d + 1) K := by
  show z_R m_X11_allJoined 0 [some (2, 1)] [] z_n μ (d + 1) _
  refine z_aload_n dX11_allJoined_0 rfl ?_
  refine n_getp (ji := 3) dX11_allJoined_1 zf_X11_27 k_1 rfl (by decide) rfl p_1_3 ?_
  refine n_getf (ji := 2) (t := 0) dX11_allJoined_4 zf_X11_123 k_6 rfl (by decide) rfl ?_
  refine z_if_le (tgt := 33) dX11_allJoined_7 (by decide) (fun q1 => ?_) (fun q2 => ?_)
  · refine z_iconst dX11_allJoined_33 ⟨by decide, by decide⟩ ?_
    exact z_zreturn dX11_allJoined_34 rfl rfl (by decide) ⟨_, rfl, (h.1 q1)⟩
  · refine z_aload_n dX11_allJoined_10 rfl ?_
    refine n_getp (ji := 4) dX11_allJoined_11 zf_X11_34 k_1 rfl (by decide) rfl p_1_4 ?_
    refine n_vI (as := []) (rest := []) dX11_allJoined_14 zm_X3_howMany zs_X11_152 k_21 (by decide) rfl rfl (Nat.le_of_ble_eq_true rfl) (Nat.le_of_ble_eq_true rfl) (h.2 q2) (fun x5 m3 h4 => ?_)
    refine z_aload_n dX11_allJoined_17 rfl ?_
    refine n_getp (ji := 3) dX11_allJoined_18 zf_X11_27 k_1 rfl (by decide) rfl p_1_3 ?_
    refine n_getf (ji := 2) (t := 0) dX11_allJoined_21 zf_X11_123 k_6 rfl (by decide) rfl ?_
    refine z_iconst dX11_allJoined_24 ⟨by decide, by decide⟩ ?_
    refine z_isub dX11_allJoined_25 h4.1 ?_
    refine z_icmp_ne (tgt := 33) dX11_allJoined_26 (by decide) (fun q6 => ?_) (fun q7 => ?_)
    · refine z_iconst dX11_allJoined_33 ⟨by decide, by decide⟩ ?_
      exact z_zreturn dX11_allJoined_34 rfl rfl (by decide) ⟨_, rfl, (h4.2.1 q6)⟩
    · refine z_iconst dX11_allJoined_29 ⟨by decide, by decide⟩ ?_
      refine z_goto (tgt := 34) dX11_allJoined_30 (by decide) ?_
      exact z_zreturn dX11_allJoined_34 rfl rfl (by decide) ⟨_, rfl, (h4.2.2 q7)⟩
set_option maxRecDepth 20000 in
theorem V_X11_netFaces  {μ : z_Mem} {d : Nat} {K : Int → z_Mem → Prop} (h : z_ci m_X11_allJoined [(2, 1)] μ d (fun x3 m1 => (x3 = 0 → K 0 m1) ∧ (¬ x3 = 0 → z_ci m_X6_overlap [(2, 23), (0, (-1))] m1 d (fun x8 m6 => (¬ x8 = 0 → K 0 m6) ∧ (x8 = 0 → K (m6 6 2) m6))))) : z_ci m_X11_netFaces [(2, 1)] μ (d + 1) K := by
  show z_R m_X11_netFaces 0 [some (2, 1)] [] z_n μ (d + 1) _
  refine z_aload_n dX11_netFaces_0 rfl ?_
  refine n_vI (as := []) (rest := []) dX11_netFaces_1 zm_X11_allJoined zs_X11_184 k_1 (by decide) rfl rfl (Nat.le_of_ble_eq_true rfl) (Nat.le_of_ble_eq_true rfl) h (fun x3 m1 h2 => ?_)
  refine z_if_eq (tgt := 28) dX11_netFaces_4 (by decide) (fun q4 => ?_) (fun q5 => ?_)
  · refine z_iconst dX11_netFaces_28 ⟨by decide, by decide⟩ ?_
    exact z_ireturn dX11_netFaces_29 rfl rfl ⟨_, rfl, (h2.1 q4)⟩
  · refine z_aload_n dX11_netFaces_7 rfl ?_
    refine n_getp (ji := 5) dX11_netFaces_8 zf_X11_41 k_1 rfl (by decide) rfl p_1_5 ?_
    refine z_iconst dX11_netFaces_11 ⟨by decide, by decide⟩ ?_
    refine n_vI (as := [(0, (-1))]) (rest := []) dX11_netFaces_12 zm_X6_overlap zs_X11_192 k_23 (by decide) rfl rfl (Nat.le_of_ble_eq_true rfl) (Nat.le_of_ble_eq_true rfl) (h2.2 q5) (fun x8 m6 h7 => ?_)
    refine z_if_ne (tgt := 28) dX11_netFaces_15 (by decide) (fun q9 => ?_) (fun q10 => ?_)
    · refine z_iconst dX11_netFaces_28 ⟨by decide, by decide⟩ ?_
      exact z_ireturn dX11_netFaces_29 rfl rfl ⟨_, rfl, (h7.1 q9)⟩
    · refine z_aload_n dX11_netFaces_18 rfl ?_
      refine n_getp (ji := 3) dX11_netFaces_19 zf_X11_27 k_1 rfl (by decide) rfl p_1_3 ?_
      refine n_getf (ji := 2) (t := 0) dX11_netFaces_22 zf_X11_123 k_6 rfl (by decide) rfl ?_
      refine z_goto (tgt := 29) dX11_netFaces_25 (by decide) ?_
      exact z_ireturn dX11_netFaces_29 rfl rfl ⟨_, rfl, (h7.2 q10)⟩
set_option maxRecDepth 20000 in
theorem V_X11_traceBorder  {μ : z_Mem} {d : Nat} {K : Int → z_Mem → Prop} (h : z_ci m_X11_allJoined [(2, 1)] μ d (fun x3 m1 => (¬ x3 = 0 → z_cn m_X0_trace [(2, 39), (2, 6), (2, 21)] m1 d (fun m6 => K 1 m6)) ∧ (x3 = 0 → K 0 m1))) : z_ci m_X11_traceBorder [(2, 1)] μ (d + 1) K := by
  show z_R m_X11_traceBorder 0 [some (2, 1)] [] z_n μ (d + 1) _
  refine z_aload_n dX11_traceBorder_0 rfl ?_
  refine n_vI (as := []) (rest := []) dX11_traceBorder_1 zm_X11_allJoined zs_X11_184 k_1 (by decide) rfl rfl (Nat.le_of_ble_eq_true rfl) (Nat.le_of_ble_eq_true rfl) h (fun x3 m1 h2 => ?_)
  refine z_if_ne (tgt := 9) dX11_traceBorder_4 (by decide) (fun q4 => ?_) (fun q5 => ?_)
  · refine z_aload_n dX11_traceBorder_9 rfl ?_
    refine n_getp (ji := 8) dX11_traceBorder_10 zf_X11_64 k_1 rfl (by decide) rfl p_1_8 ?_
    refine z_aload_n dX11_traceBorder_13 rfl ?_
    refine n_getp (ji := 3) dX11_traceBorder_14 zf_X11_27 k_1 rfl (by decide) rfl p_1_3 ?_
    refine z_aload_n dX11_traceBorder_17 rfl ?_
    refine n_getp (ji := 4) dX11_traceBorder_18 zf_X11_34 k_1 rfl (by decide) rfl p_1_4 ?_
    refine n_vN (as := [(2, 6), (2, 21)]) (rest := []) dX11_traceBorder_21 zm_X0_trace zs_X11_395 k_39 (by decide) rfl rfl (Nat.le_of_ble_eq_true rfl) (Nat.le_of_ble_eq_true rfl) (h2.1 q4) (fun m6 h7 => ?_)
    refine z_iconst dX11_traceBorder_24 ⟨by decide, by decide⟩ ?_
    exact z_zreturn dX11_traceBorder_25 rfl rfl (by decide) ⟨_, rfl, h7⟩
  · refine z_iconst dX11_traceBorder_7 ⟨by decide, by decide⟩ ?_
    exact z_zreturn dX11_traceBorder_8 rfl rfl (by decide) ⟨_, rfl, (h2.2 q5)⟩
set_option maxRecDepth 20000 in
theorem V_X11_nextSlot {a : Int}  {μ : z_Mem} {d : Nat} {K : Int → z_Mem → Prop} (h : ((0 : Int) ≤ a) ∧ (z_I (a + 1) ∧ (((0 : Int) ≤ ((((a : Int).toNat ^^^ ((a : Int).toNat &&& (3 : Int).toNat) : Nat)) : Int) ∧ (0 : Int) ≤ (a + 1) % 4) ∧ (K ((((((((a : Int).toNat ^^^ ((a : Int).toNat &&& (3 : Int).toNat) : Nat)) : Int) : Int).toNat ||| ((a + 1) % 4 : Int).toNat : Nat)) : Int) μ)))) : z_ci m_X11_nextSlot [(0, a)] μ d K := by
  show z_R m_X11_nextSlot 0 [some (0, a)] [] z_n μ d _
  refine z_iload_n dX11_nextSlot_0 rfl ?_
  refine z_bipush dX11_nextSlot_1 (by decide) ?_
  refine z_iandn dX11_nextSlot_3 3 rfl h.1 (by decide) ?_
  refine z_iload_n dX11_nextSlot_4 rfl ?_
  refine z_iconst dX11_nextSlot_5 ⟨by decide, by decide⟩ ?_
  refine z_iadd dX11_nextSlot_6 h.2.1 ?_
  refine z_iconst dX11_nextSlot_7 ⟨by decide, by decide⟩ ?_
  refine n_iandm (k := 2) (m := 4) dX11_nextSlot_8 (by decide) (by decide) ?_
  refine z_ior dX11_nextSlot_9 h.2.2.1.1 h.2.2.1.2 ?_
  exact z_ireturn dX11_nextSlot_10 rfl rfl ⟨_, rfl, h.2.2.2⟩

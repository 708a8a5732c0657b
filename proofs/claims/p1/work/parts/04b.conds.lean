set_option maxRecDepth 20000 in
theorem V_X0_trace  {μ : z_Mem} {d : Nat} {K : z_Mem → Prop} (h : (μ 39 0 = 0 → z_I (2 * (μ 6 2)) ∧ (z_I ((2 * (μ 6 2)) + 2) ∧ (z_rn m_X0_trace 27 [some (2, 39), some (2, 6), some (2, 21), some (0, 0), none, none] (z_st μ 39 1 (min ((2 * (μ 6 2)) + 2) 62)) (d + 1) K))) ∧ (¬ μ 39 0 = 0 → K μ)) : z_cn m_X0_trace [(2, 39), (2, 6), (2, 21)] μ (d + 1) K := by
  show z_R m_X0_trace 0 [some (2, 39), some (2, 6), some (2, 21), none, none, none] [] z_n μ (d + 1) _
  refine z_aload_n dX0_trace_0 rfl ?_
  refine n_getf (ji := 0) (t := 0) dX0_trace_1 zf_X0_9 k_39 rfl (by decide) rfl ?_
  refine z_if_eq (tgt := 8) dX0_trace_4 (by decide) (fun q1 => ?_) (fun q2 => ?_)
  · refine z_aload_n dX0_trace_8 rfl ?_
    refine z_iconst dX0_trace_9 ⟨by decide, by decide⟩ ?_
    refine z_aload_n dX0_trace_10 rfl ?_
    refine n_getf (ji := 2) (t := 0) dX0_trace_11 zf_X0_32 k_6 rfl (by decide) rfl ?_
    refine z_imul dX0_trace_14 (h.1 q1).1 ?_
    refine z_iconst dX0_trace_15 ⟨by decide, by decide⟩ ?_
    refine z_iadd dX0_trace_16 (h.1 q1).2.1 ?_
    refine z_bipush dX0_trace_17 (by decide) ?_
    refine z_mmin dX0_trace_19 zq_1085 zq_592 zq_133 zq_593 (Nat.le_of_ble_eq_true rfl) ?_
    refine n_putI (ji := 1) dX0_trace_22 zf_X0_15 k_39 rfl (by decide) rfl ?_
    refine z_iconst dX0_trace_25 ⟨by decide, by decide⟩ ?_
    refine n_istore_n (lo' := [some (2, 39), some (2, 6), some (2, 21), some (0, 0), none, none]) dX0_trace_26 ⟨Nat.le_of_ble_eq_true rfl, Nat.le_of_ble_eq_true rfl⟩ rfl ?_
    refine z_drop [some (2, 39), some (2, 6), some (2, 21), some (0, 0), none, none] ⟨rfl, rfl, rfl, rfl, trivial⟩ ?_
    exact (h.1 q1).2.2
  · exact z_return dX0_trace_7 rfl rfl ⟨rfl, (h.2 q2)⟩
set_option maxRecDepth 20000 in
theorem V_X0_trace_27 {v3 : Int}  {μ : z_Mem} {d : Nat} {K : z_Mem → Prop} (h : (119 ≤ v3 → z_rn m_X0_trace 55 [some (2, 39), some (2, 6), some (2, 21), some (0, v3), some (0, 0), none] μ (d + 1) K) ∧ (v3 < 119 → ((0 : Int) ≤ v3 ∧ v3 < 120) ∧ (z_ci m_X3_isHinge [(2, 21), (0, μ 12 v3)] μ d (fun x5 m3 => (x5 = 0 → z_rn m_X0_trace 55 [some (2, 39), some (2, 6), some (2, 21), some (0, v3), some (0, 0), none] m3 (d + 1) K) ∧ (¬ x5 = 0 → z_I (v3 + 1) ∧ (z_rn m_X0_trace 27 [some (2, 39), some (2, 6), some (2, 21), some (0, v3 + 1), none, none] m3 (d + 1) K)))))) : z_rn m_X0_trace 27 [some (2, 39), some (2, 6), some (2, 21), some (0, v3), none, none] μ (d + 1) K := by
  show z_R m_X0_trace 27 [some (2, 39), some (2, 6), some (2, 21), some (0, v3), none, none] [] z_n μ (d + 1) _
  refine z_iload_n dX0_trace_27 rfl ?_
  refine z_bipush dX0_trace_28 (by decide) ?_
  refine z_icmp_ge (tgt := 52) dX0_trace_30 (by decide) (fun q1 => ?_) (fun q2 => ?_)
  · refine z_iconst dX0_trace_52 ⟨by decide, by decide⟩ ?_
    refine n_istore (lo' := [some (2, 39), some (2, 6), some (2, 21), some (0, v3), some (0, 0), none]) dX0_trace_53 ⟨Nat.le_of_ble_eq_true rfl, Nat.le_of_ble_eq_true rfl⟩ rfl ?_
    refine z_drop [some (2, 39), some (2, 6), some (2, 21), some (0, v3), some (0, 0), none] ⟨rfl, rfl, rfl, rfl, rfl, trivial⟩ ?_
    exact (h.1 q1)
  · refine z_aload_n dX0_trace_33 rfl ?_
    refine z_aload_n dX0_trace_34 rfl ?_
    refine n_getp (ji := 7) dX0_trace_35 zf_X0_43 k_6 rfl (by decide) rfl p_6_7 ?_
    refine z_iload_n dX0_trace_38 rfl ?_
    refine n_iald dX0_trace_39 k_12 (h.2 q2).1 ?_
    refine n_vI (as := [(0, μ 12 v3)]) (rest := []) dX0_trace_40 zm_X3_isHinge zs_X0_46 k_21 (by decide) rfl rfl (Nat.le_of_ble_eq_true rfl) (Nat.le_of_ble_eq_true rfl) (h.2 q2).2 (fun x5 m3 h4 => ?_)
    refine z_if_eq (tgt := 52) dX0_trace_43 (by decide) (fun q6 => ?_) (fun q7 => ?_)
    · refine z_iconst dX0_trace_52 ⟨by decide, by decide⟩ ?_
      refine n_istore (lo' := [some (2, 39), some (2, 6), some (2, 21), some (0, v3), some (0, 0), none]) dX0_trace_53 ⟨Nat.le_of_ble_eq_true rfl, Nat.le_of_ble_eq_true rfl⟩ rfl ?_
      refine z_drop [some (2, 39), some (2, 6), some (2, 21), some (0, v3), some (0, 0), none] ⟨rfl, rfl, rfl, rfl, rfl, trivial⟩ ?_
      exact (h4.1 q6)
    · refine n_iinc (lo' := [some (2, 39), some (2, 6), some (2, 21), some (0, v3 + 1), none, none]) dX0_trace_46 rfl (by decide) (h4.2 q7).1 rfl ?_
      refine z_goto (tgt := 27) dX0_trace_49 (by decide) ?_
      refine z_drop [some (2, 39), some (2, 6), some (2, 21), some (0, v3 + 1), none, none] ⟨rfl, rfl, rfl, rfl, trivial⟩ ?_
      exact (h4.2 q7).2
set_option maxRecDepth 20000 in
theorem V_X0_trace_55 {v3 v4 : Int}  {μ : z_Mem} {d : Nat} {K : z_Mem → Prop} (h : (μ 39 1 ≤ v4 → z_rn m_X0_trace 159 [some (2, 39), some (2, 6), none, none, some (0, 0), none] μ (d + 1) K) ∧ (v4 < μ 39 1 → ((0 : Int) ≤ v4 ∧ v4 < 62) ∧ (((0 : Int) ≤ v3 ∧ v3 < 120) ∧ (z_ci m_X11_nextSlot [(0, v3)] (z_st (z_st μ 40 v4 v3) 43 v3 v4) d (fun x5 m3 => z_rn m_X0_trace 88 [some (2, 39), some (2, 6), some (2, 21), some (0, x5), some (0, v4), some (0, 1)] m3 (d + 1) K))))) : z_rn m_X0_trace 55 [some (2, 39), some (2, 6), some (2, 21), some (0, v3), some (0, v4), none] μ (d + 1) K := by
  show z_R m_X0_trace 55 [some (2, 39), some (2, 6), some (2, 21), some (0, v3), some (0, v4), none] [] z_n μ (d + 1) _
  refine z_iload dX0_trace_55 rfl ?_
  refine z_aload_n dX0_trace_57 rfl ?_
  refine n_getf (ji := 1) (t := 0) dX0_trace_58 zf_X0_15 k_39 rfl (by decide) rfl ?_
  refine z_icmp_ge (tgt := 156) dX0_trace_61 (by decide) (fun q1 => ?_) (fun q2 => ?_)
  · refine z_iconst dX0_trace_156 ⟨by decide, by decide⟩ ?_
    refine n_istore (lo' := [some (2, 39), some (2, 6), some (2, 21), some (0, v3), some (0, 0), none]) dX0_trace_157 ⟨Nat.le_of_ble_eq_true rfl, Nat.le_of_ble_eq_true rfl⟩ rfl ?_
    refine z_drop [some (2, 39), some (2, 6), none, none, some (0, 0), none] ⟨rfl, rfl, rfl, trivial⟩ ?_
    exact (h.1 q1)
  · refine z_aload_n dX0_trace_64 rfl ?_
    refine n_getp (ji := 2) dX0_trace_65 zf_X0_19 k_39 rfl (by decide) rfl p_39_2 ?_
    refine z_iload dX0_trace_68 rfl ?_
    refine z_iload_n dX0_trace_70 rfl ?_
    refine n_iast dX0_trace_71 k_40 (h.2 q2).1 ?_
    refine z_aload_n dX0_trace_72 rfl ?_
    refine n_getp (ji := 5) dX0_trace_73 zf_X0_29 k_39 rfl (by decide) rfl p_39_5 ?_
    refine z_iload_n dX0_trace_76 rfl ?_
    refine z_iload dX0_trace_77 rfl ?_
    refine n_iast dX0_trace_79 k_43 (h.2 q2).2.1 ?_
    refine z_iconst dX0_trace_80 ⟨by decide, by decide⟩ ?_
    refine n_istore (lo' := [some (2, 39), some (2, 6), some (2, 21), some (0, v3), some (0, v4), some (0, 1)]) dX0_trace_81 ⟨Nat.le_of_ble_eq_true rfl, Nat.le_of_ble_eq_true rfl⟩ rfl ?_
    refine z_iload_n dX0_trace_83 rfl ?_
    refine n_snI (as := [(0, v3)]) (rest := []) dX0_trace_84 zm_X11_nextSlot zq_1087 zq_686 rfl rfl (Nat.le_of_ble_eq_true rfl) (Nat.le_of_ble_eq_true rfl) (h.2 q2).2.2 (fun x5 m3 h4 => ?_)
    refine n_istore_n (lo' := [some (2, 39), some (2, 6), some (2, 21), some (0, x5), some (0, v4), some (0, 1)]) dX0_trace_87 ⟨Nat.le_of_ble_eq_true rfl, Nat.le_of_ble_eq_true rfl⟩ rfl ?_
    refine z_drop [some (2, 39), some (2, 6), some (2, 21), some (0, x5), some (0, v4), some (0, 1)] ⟨rfl, rfl, rfl, rfl, rfl, rfl, trivial⟩ ?_
    exact h4
set_option maxRecDepth 20000 in
theorem V_X0_trace_88 {v3 v4 v5 : Int}  {μ : z_Mem} {d : Nat} {K : z_Mem → Prop} (h : (120 ≤ v5 → z_I (v4 + 1) ∧ ((μ 39 1 ≤ v4 + 1 → z_I (v4 + 1) ∧ (z_rn m_X0_trace 55 [some (2, 39), some (2, 6), some (2, 21), some (0, v3), some (0, v4 + 1), none] (z_st μ 41 0 v5) (d + 1) K)) ∧ (v4 + 1 < μ 39 1 → z_I (v4 + 1) ∧ (((0 : Int) ≤ v4 + 1 ∧ v4 + 1 < 62) ∧ (z_I (v4 + 1) ∧ (z_rn m_X0_trace 55 [some (2, 39), some (2, 6), some (2, 21), some (0, v3), some (0, v4 + 1), none] (z_st μ 41 (v4 + 1) v5) (d + 1) K)))))) ∧ (v5 < 120 → ((0 : Int) ≤ v3 ∧ v3 < 120) ∧ (z_ci m_X3_isHinge [(2, 21), (0, μ 12 v3)] μ d (fun x7 m5 => (x7 = 0 → z_I (v4 + 1) ∧ ((m5 39 1 ≤ v4 + 1 → z_I (v4 + 1) ∧ (z_rn m_X0_trace 55 [some (2, 39), some (2, 6), some (2, 21), some (0, v3), some (0, v4 + 1), none] (z_st m5 41 0 v5) (d + 1) K)) ∧ (v4 + 1 < m5 39 1 → z_I (v4 + 1) ∧ (((0 : Int) ≤ v4 + 1 ∧ v4 + 1 < 62) ∧ (z_I (v4 + 1) ∧ (z_rn m_X0_trace 55 [some (2, 39), some (2, 6), some (2, 21), some (0, v3), some (0, v4 + 1), none] (z_st m5 41 (v4 + 1) v5) (d + 1) K)))))) ∧ (¬ x7 = 0 → ((0 : Int) ≤ v3 ∧ v3 < 120) ∧ (z_ci m_X11_nextSlot [(0, m5 11 v3)] m5 d (fun x14 m12 => z_I (v5 + 1) ∧ (z_rn m_X0_trace 88 [some (2, 39), some (2, 6), some (2, 21), some (0, x14), some (0, v4), some (0, v5 + 1)] m12 (d + 1) K)))))))) : z_rn m_X0_trace 88 [some (2, 39), some (2, 6), some (2, 21), some (0, v3), some (0, v4), some (0, v5)] μ (d + 1) K := by
  show z_R m_X0_trace 88 [some (2, 39), some (2, 6), some (2, 21), some (0, v3), some (0, v4), some (0, v5)] [] z_n μ (d + 1) _
  refine z_iload dX0_trace_88 rfl ?_
  refine z_bipush dX0_trace_90 (by decide) ?_
  refine z_icmp_ge (tgt := 124) dX0_trace_92 (by decide) (fun q1 => ?_) (fun q2 => ?_)
  · refine z_aload_n dX0_trace_124 rfl ?_
    refine n_getp (ji := 3) dX0_trace_125 zf_X0_23 k_39 rfl (by decide) rfl p_39_3 ?_
    refine z_iload dX0_trace_128 rfl ?_
    refine z_iconst dX0_trace_130 ⟨by decide, by decide⟩ ?_
    refine z_iadd dX0_trace_131 (h.1 q1).1 ?_
    refine z_aload_n dX0_trace_132 rfl ?_
    refine n_getf (ji := 1) (t := 0) dX0_trace_133 zf_X0_15 k_39 rfl (by decide) rfl ?_
    refine z_icmp_ge (tgt := 146) dX0_trace_136 (by decide) (fun q3 => ?_) (fun q4 => ?_)
    · refine z_iconst dX0_trace_146 ⟨by decide, by decide⟩ ?_
      refine z_iload dX0_trace_147 rfl ?_
      refine n_iast dX0_trace_149 k_41 (by decide) ?_
      refine n_iinc (lo' := [some (2, 39), some (2, 6), some (2, 21), some (0, v3), some (0, v4 + 1), some (0, v5)]) dX0_trace_150 rfl (by decide) ((h.1 q1).2.1 q3).1 rfl ?_
      refine z_goto (tgt := 55) dX0_trace_153 (by decide) ?_
      refine z_drop [some (2, 39), some (2, 6), some (2, 21), some (0, v3), some (0, v4 + 1), none] ⟨rfl, rfl, rfl, rfl, rfl, trivial⟩ ?_
      exact ((h.1 q1).2.1 q3).2
    · refine z_iload dX0_trace_139 rfl ?_
      refine z_iconst dX0_trace_141 ⟨by decide, by decide⟩ ?_
      refine z_iadd dX0_trace_142 ((h.1 q1).2.2 q4).1 ?_
      refine z_goto (tgt := 147) dX0_trace_143 (by decide) ?_
      refine z_iload dX0_trace_147 rfl ?_
      refine n_iast dX0_trace_149 k_41 ((h.1 q1).2.2 q4).2.1 ?_
      refine n_iinc (lo' := [some (2, 39), some (2, 6), some (2, 21), some (0, v3), some (0, v4 + 1), some (0, v5)]) dX0_trace_150 rfl (by decide) ((h.1 q1).2.2 q4).2.2.1 rfl ?_
      refine z_goto (tgt := 55) dX0_trace_153 (by decide) ?_
      refine z_drop [some (2, 39), some (2, 6), some (2, 21), some (0, v3), some (0, v4 + 1), none] ⟨rfl, rfl, rfl, rfl, rfl, trivial⟩ ?_
      exact ((h.1 q1).2.2 q4).2.2.2
  · refine z_aload_n dX0_trace_95 rfl ?_
    refine z_aload_n dX0_trace_96 rfl ?_
    refine n_getp (ji := 7) dX0_trace_97 zf_X0_43 k_6 rfl (by decide) rfl p_6_7 ?_
    refine z_iload_n dX0_trace_100 rfl ?_
    refine n_iald dX0_trace_101 k_12 (h.2 q2).1 ?_
    refine n_vI (as := [(0, μ 12 v3)]) (rest := []) dX0_trace_102 zm_X3_isHinge zs_X0_46 k_21 (by decide) rfl rfl (Nat.le_of_ble_eq_true rfl) (Nat.le_of_ble_eq_true rfl) (h.2 q2).2 (fun x7 m5 h6 => ?_)
    refine z_if_eq (tgt := 124) dX0_trace_105 (by decide) (fun q8 => ?_) (fun q9 => ?_)
    · refine z_aload_n dX0_trace_124 rfl ?_
      refine n_getp (ji := 3) dX0_trace_125 zf_X0_23 k_39 rfl (by decide) rfl p_39_3 ?_
      refine z_iload dX0_trace_128 rfl ?_
      refine z_iconst dX0_trace_130 ⟨by decide, by decide⟩ ?_
      refine z_iadd dX0_trace_131 (h6.1 q8).1 ?_
      refine z_aload_n dX0_trace_132 rfl ?_
      refine n_getf (ji := 1) (t := 0) dX0_trace_133 zf_X0_15 k_39 rfl (by decide) rfl ?_
      refine z_icmp_ge (tgt := 146) dX0_trace_136 (by decide) (fun q10 => ?_) (fun q11 => ?_)
      · refine z_iconst dX0_trace_146 ⟨by decide, by decide⟩ ?_
        refine z_iload dX0_trace_147 rfl ?_
        refine n_iast dX0_trace_149 k_41 (by decide) ?_
        refine n_iinc (lo' := [some (2, 39), some (2, 6), some (2, 21), some (0, v3), some (0, v4 + 1), some (0, v5)]) dX0_trace_150 rfl (by decide) ((h6.1 q8).2.1 q10).1 rfl ?_
        refine z_goto (tgt := 55) dX0_trace_153 (by decide) ?_
        refine z_drop [some (2, 39), some (2, 6), some (2, 21), some (0, v3), some (0, v4 + 1), none] ⟨rfl, rfl, rfl, rfl, rfl, trivial⟩ ?_
        exact ((h6.1 q8).2.1 q10).2
      · refine z_iload dX0_trace_139 rfl ?_
        refine z_iconst dX0_trace_141 ⟨by decide, by decide⟩ ?_
        refine z_iadd dX0_trace_142 ((h6.1 q8).2.2 q11).1 ?_
        refine z_goto (tgt := 147) dX0_trace_143 (by decide) ?_
        refine z_iload dX0_trace_147 rfl ?_
        refine n_iast dX0_trace_149 k_41 ((h6.1 q8).2.2 q11).2.1 ?_
        refine n_iinc (lo' := [some (2, 39), some (2, 6), some (2, 21), some (0, v3), some (0, v4 + 1), some (0, v5)]) dX0_trace_150 rfl (by decide) ((h6.1 q8).2.2 q11).2.2.1 rfl ?_
        refine z_goto (tgt := 55) dX0_trace_153 (by decide) ?_
        refine z_drop [some (2, 39), some (2, 6), some (2, 21), some (0, v3), some (0, v4 + 1), none] ⟨rfl, rfl, rfl, rfl, rfl, trivial⟩ ?_
        exact ((h6.1 q8).2.2 q11).2.2.2
    · refine z_aload_n dX0_trace_108 rfl ?_
      refine n_getp (ji := 6) dX0_trace_109 zf_X0_56 k_6 rfl (by decide) rfl p_6_6 ?_
      refine z_iload_n dX0_trace_112 rfl ?_
      refine n_iald dX0_trace_113 k_11 (h6.2 q9).1 ?_
      refine n_snI (as := [(0, m5 11 v3)]) (rest := []) dX0_trace_114 zm_X11_nextSlot zq_1087 zq_686 rfl rfl (Nat.le_of_ble_eq_true rfl) (Nat.le_of_ble_eq_true rfl) (h6.2 q9).2 (fun x14 m12 h13 => ?_)
      refine n_istore_n (lo' := [some (2, 39), some (2, 6), some (2, 21), some (0, x14), some (0, v4), some (0, v5)]) dX0_trace_117 ⟨Nat.le_of_ble_eq_true rfl, Nat.le_of_ble_eq_true rfl⟩ rfl ?_
      refine n_iinc (lo' := [some (2, 39), some (2, 6), some (2, 21), some (0, x14), some (0, v4), some (0, v5 + 1)]) dX0_trace_118 rfl (by decide) h13.1 rfl ?_
      refine z_goto (tgt := 88) dX0_trace_121 (by decide) ?_
      refine z_drop [some (2, 39), some (2, 6), some (2, 21), some (0, x14), some (0, v4), some (0, v5 + 1)] ⟨rfl, rfl, rfl, rfl, rfl, rfl, trivial⟩ ?_
      exact h13.2
set_option maxRecDepth 20000 in
theorem V_X0_trace_159 {v4 : Int}  {μ : z_Mem} {d : Nat} {K : z_Mem → Prop} (h : (μ 39 1 ≤ v4 → K (z_st μ 39 0 1)) ∧ (v4 < μ 39 1 → ((0 : Int) ≤ v4 ∧ v4 < 62) ∧ (((0 : Int) ≤ μ 40 v4 ∧ μ 40 v4 < 120) ∧ (((0 : Int) ≤ μ 11 (μ 40 v4) ∧ μ 11 (μ 40 v4) < 120) ∧ (((0 : Int) ≤ v4 ∧ v4 < 62) ∧ (z_I (v4 + 1) ∧ (z_rn m_X0_trace 159 [some (2, 39), some (2, 6), none, none, some (0, v4 + 1), none] (z_st μ 42 v4 (μ 43 (μ 11 (μ 40 v4)))) (d + 1) K))))))) : z_rn m_X0_trace 159 [some (2, 39), some (2, 6), none, none, some (0, v4), none] μ (d + 1) K := by
  show z_R m_X0_trace 159 [some (2, 39), some (2, 6), none, none, some (0, v4), none] [] z_n μ (d + 1) _
  refine z_iload dX0_trace_159 rfl ?_
  refine z_aload_n dX0_trace_161 rfl ?_
  refine n_getf (ji := 1) (t := 0) dX0_trace_162 zf_X0_15 k_39 rfl (by decide) rfl ?_
  refine z_icmp_ge (tgt := 198) dX0_trace_165 (by decide) (fun q1 => ?_) (fun q2 => ?_)
  · refine z_aload_n dX0_trace_198 rfl ?_
    refine z_iconst dX0_trace_199 ⟨by decide, by decide⟩ ?_
    refine n_putZ (ji := 0) dX0_trace_200 zf_X0_9 k_39 rfl (by decide) rfl (by decide) ?_
    exact z_return dX0_trace_203 rfl rfl ⟨rfl, (h.1 q1)⟩
  · refine z_aload_n dX0_trace_168 rfl ?_
    refine n_getp (ji := 4) dX0_trace_169 zf_X0_26 k_39 rfl (by decide) rfl p_39_4 ?_
    refine z_iload dX0_trace_172 rfl ?_
    refine z_aload_n dX0_trace_174 rfl ?_
    refine n_getp (ji := 5) dX0_trace_175 zf_X0_29 k_39 rfl (by decide) rfl p_39_5 ?_
    refine z_aload_n dX0_trace_178 rfl ?_
    refine n_getp (ji := 6) dX0_trace_179 zf_X0_56 k_6 rfl (by decide) rfl p_6_6 ?_
    refine z_aload_n dX0_trace_182 rfl ?_
    refine n_getp (ji := 2) dX0_trace_183 zf_X0_19 k_39 rfl (by decide) rfl p_39_2 ?_
    refine z_iload dX0_trace_186 rfl ?_
    refine n_iald dX0_trace_188 k_40 (h.2 q2).1 ?_
    refine n_iald dX0_trace_189 k_11 (h.2 q2).2.1 ?_
    refine n_iald dX0_trace_190 k_43 (h.2 q2).2.2.1 ?_
    refine n_iast dX0_trace_191 k_42 (h.2 q2).2.2.2.1 ?_
    refine n_iinc (lo' := [some (2, 39), some (2, 6), none, none, some (0, v4 + 1), none]) dX0_trace_192 rfl (by decide) (h.2 q2).2.2.2.2.1 rfl ?_
    refine z_goto (tgt := 159) dX0_trace_195 (by decide) ?_
    refine z_drop [some (2, 39), some (2, 6), none, none, some (0, v4 + 1), none] ⟨rfl, rfl, rfl, trivial⟩ ?_
    exact (h.2 q2).2.2.2.2.2
set_option maxRecDepth 20000 in
theorem V_X1_findAll  {μ : z_Mem} {d : Nat} {K : z_Mem → Prop} (h : (μ 44 0 = 0 → z_cn m_X1_begin [(2, 44), (2, 39)] μ d (fun m3 => z_cn m_X1_open [(2, 44), (0, 0)] (z_st m3 44 1 0) d (fun m5 => z_rn m_X1_findAll 27 [some (2, 44), none, some (0, 0), some (0, 0)] m5 (d + 1) K))) ∧ (¬ μ 44 0 = 0 → K μ)) : z_cn m_X1_findAll [(2, 44), (2, 39)] μ (d + 1) K := by
  show z_R m_X1_findAll 0 [some (2, 44), some (2, 39), none, none] [] z_n μ (d + 1) _
  refine z_aload_n dX1_findAll_0 rfl ?_
  refine n_getf (ji := 0) (t := 0) dX1_findAll_1 zf_X1_9 k_44 rfl (by decide) rfl ?_
  refine z_if_eq (tgt := 8) dX1_findAll_4 (by decide) (fun q1 => ?_) (fun q2 => ?_)
  · refine z_aload_n dX1_findAll_8 rfl ?_
    refine z_aload_n dX1_findAll_9 rfl ?_
    refine n_vN (as := [(2, 39)]) (rest := []) dX1_findAll_10 zm_X1_begin zs_X1_43 k_44 (by decide) rfl rfl (Nat.le_of_ble_eq_true rfl) (Nat.le_of_ble_eq_true rfl) (h.1 q1) (fun m3 h4 => ?_)
    refine z_aload_n dX1_findAll_13 rfl ?_
    refine z_iconst dX1_findAll_14 ⟨by decide, by decide⟩ ?_
    refine n_putI (ji := 1) dX1_findAll_15 zf_X1_15 k_44 rfl (by decide) rfl ?_
    refine z_iconst dX1_findAll_18 ⟨by decide, by decide⟩ ?_
    refine n_istore_n (lo' := [some (2, 44), some (2, 39), some (0, 0), none]) dX1_findAll_19 ⟨Nat.le_of_ble_eq_true rfl, Nat.le_of_ble_eq_true rfl⟩ rfl ?_
    refine z_aload_n dX1_findAll_20 rfl ?_
    refine z_iconst dX1_findAll_21 ⟨by decide, by decide⟩ ?_
    refine n_vN (as := [(0, 0)]) (rest := []) dX1_findAll_22 zm_X1_open zs_X1_47 k_44 (by decide) rfl rfl (Nat.le_of_ble_eq_true rfl) (Nat.le_of_ble_eq_true rfl) h4 (fun m5 h6 => ?_)
    refine z_iconst dX1_findAll_25 ⟨by decide, by decide⟩ ?_
    refine n_istore_n (lo' := [some (2, 44), some (2, 39), some (0, 0), some (0, 0)]) dX1_findAll_26 ⟨Nat.le_of_ble_eq_true rfl, Nat.le_of_ble_eq_true rfl⟩ rfl ?_
    refine z_drop [some (2, 44), none, some (0, 0), some (0, 0)] ⟨rfl, rfl, rfl, trivial⟩ ?_
    exact h6
  · exact z_return dX1_findAll_7 rfl rfl ⟨rfl, (h.2 q2)⟩
set_option maxRecDepth 20000 in
theorem V_X1_findAll_27 {v2 v3 : Int}  {μ : z_Mem} {d : Nat} {K : z_Mem → Prop} (h : (1000000 ≤ v3 → K (z_st μ 44 0 1)) ∧ (v3 < 1000000 → (v2 < 0 → K (z_st μ 44 0 1)) ∧ (0 ≤ v2 → z_I (2 * v2) ∧ ((μ 44 3 ≤ 2 * v2 → z_I (2 * v2) ∧ ((¬ 2 * v2 = μ 44 3 → z_I (v2 + (-1)) ∧ (z_cn m_X1_takeUp [(2, 44), (0, v2 + (-1))] μ d (fun m9 => z_I (v3 + 1) ∧ (z_rn m_X1_findAll 27 [some (2, 44), none, some (0, v2 + (-1)), some (0, v3 + 1)] m9 (d + 1) K)))) ∧ (2 * v2 = μ 44 3 → z_cn m_X1_store [(2, 44)] μ d (fun m11 => z_I (v2 + (-1)) ∧ (z_cn m_X1_takeUp [(2, 44), (0, v2 + (-1))] m11 d (fun m13 => z_I (v3 + 1) ∧ (z_rn m_X1_findAll 27 [some (2, 44), none, some (0, v2 + (-1)), some (0, v3 + 1)] m13 (d + 1) K))))))) ∧ (2 * v2 < μ 44 3 → z_ci m_X1_glueNext [(2, 44), (0, v2)] μ d (fun x17 m15 => (x17 = 0 → z_I (2 * v2) ∧ ((¬ 2 * v2 = m15 44 3 → z_I (v2 + (-1)) ∧ (z_cn m_X1_takeUp [(2, 44), (0, v2 + (-1))] m15 d (fun m22 => z_I (v3 + 1) ∧ (z_rn m_X1_findAll 27 [some (2, 44), none, some (0, v2 + (-1)), some (0, v3 + 1)] m22 (d + 1) K)))) ∧ (2 * v2 = m15 44 3 → z_cn m_X1_store [(2, 44)] m15 d (fun m24 => z_I (v2 + (-1)) ∧ (z_cn m_X1_takeUp [(2, 44), (0, v2 + (-1))] m24 d (fun m26 => z_I (v3 + 1) ∧ (z_rn m_X1_findAll 27 [some (2, 44), none, some (0, v2 + (-1)), some (0, v3 + 1)] m26 (d + 1) K))))))) ∧ (¬ x17 = 0 → z_I (v2 + 1) ∧ (z_cn m_X1_open [(2, 44), (0, v2 + 1)] m15 d (fun m28 => z_I (v3 + 1) ∧ (z_rn m_X1_findAll 27 [some (2, 44), none, some (0, v2 + 1), some (0, v3 + 1)] m28 (d + 1) K)))))))))) : z_rn m_X1_findAll 27 [some (2, 44), none, some (0, v2), some (0, v3)] μ (d + 1) K := by
  show z_R m_X1_findAll 27 [some (2, 44), none, some (0, v2), some (0, v3)] [] z_n μ (d + 1) _
  refine z_iload_n dX1_findAll_27 rfl ?_
  refine z_ldc (n := 1000000) dX1_findAll_28 zc_1105 ⟨by decide, by decide⟩ ?_
  refine z_icmp_ge (tgt := 94) dX1_findAll_30 (by decide) (fun q1 => ?_) (fun q2 => ?_)
  · refine z_aload_n dX1_findAll_94 rfl ?_
    refine z_iconst dX1_findAll_95 ⟨by decide, by decide⟩ ?_
    refine n_putZ (ji := 0) dX1_findAll_96 zf_X1_9 k_44 rfl (by decide) rfl (by decide) ?_
    exact z_return dX1_findAll_99 rfl rfl ⟨rfl, (h.1 q1)⟩
  · refine z_iload_n dX1_findAll_33 rfl ?_
    refine z_if_lt (tgt := 94) dX1_findAll_34 (by decide) (fun q3 => ?_) (fun q4 => ?_)
    · refine z_aload_n dX1_findAll_94 rfl ?_
      refine z_iconst dX1_findAll_95 ⟨by decide, by decide⟩ ?_
      refine n_putZ (ji := 0) dX1_findAll_96 zf_X1_9 k_44 rfl (by decide) rfl (by decide) ?_
      exact z_return dX1_findAll_99 rfl rfl ⟨rfl, ((h.2 q2).1 q3)⟩
    · refine z_iconst dX1_findAll_37 ⟨by decide, by decide⟩ ?_
      refine z_iload_n dX1_findAll_38 rfl ?_
      refine z_imul dX1_findAll_39 ((h.2 q2).2 q4).1 ?_
      refine z_aload_n dX1_findAll_40 rfl ?_
      refine n_getf (ji := 3) (t := 0) dX1_findAll_41 zf_X1_23 k_44 rfl (by decide) rfl ?_
      refine z_icmp_ge (tgt := 66) dX1_findAll_44 (by decide) (fun q5 => ?_) (fun q6 => ?_)
      · refine z_iconst dX1_findAll_66 ⟨by decide, by decide⟩ ?_
        refine z_iload_n dX1_findAll_67 rfl ?_
        refine z_imul dX1_findAll_68 (((h.2 q2).2 q4).2.1 q5).1 ?_
        refine z_aload_n dX1_findAll_69 rfl ?_
        refine n_getf (ji := 3) (t := 0) dX1_findAll_70 zf_X1_23 k_44 rfl (by decide) rfl ?_
        refine z_icmp_ne (tgt := 80) dX1_findAll_73 (by decide) (fun q7 => ?_) (fun q8 => ?_)
        · refine n_iinc (lo' := [some (2, 44), none, some (0, v2 + (-1)), some (0, v3)]) dX1_findAll_80 rfl (by decide) ((((h.2 q2).2 q4).2.1 q5).2.1 q7).1 rfl ?_
          refine z_aload_n dX1_findAll_83 rfl ?_
          refine z_iload_n dX1_findAll_84 rfl ?_
          refine n_vN (as := [(0, v2 + (-1))]) (rest := []) dX1_findAll_85 zm_X1_takeUp zs_X1_59 k_44 (by decide) rfl rfl (Nat.le_of_ble_eq_true rfl) (Nat.le_of_ble_eq_true rfl) ((((h.2 q2).2 q4).2.1 q5).2.1 q7).2 (fun m9 h10 => ?_)
          refine n_iinc (lo' := [some (2, 44), none, some (0, v2 + (-1)), some (0, v3 + 1)]) dX1_findAll_88 rfl (by decide) h10.1 rfl ?_
          refine z_goto (tgt := 27) dX1_findAll_91 (by decide) ?_
          refine z_drop [some (2, 44), none, some (0, v2 + (-1)), some (0, v3 + 1)] ⟨rfl, rfl, rfl, trivial⟩ ?_
          exact h10.2
        · refine z_aload_n dX1_findAll_76 rfl ?_
          refine n_vN (as := []) (rest := []) dX1_findAll_77 zm_X1_store zs_X1_56 k_44 (by decide) rfl rfl (Nat.le_of_ble_eq_true rfl) (Nat.le_of_ble_eq_true rfl) ((((h.2 q2).2 q4).2.1 q5).2.2 q8) (fun m11 h12 => ?_)
          refine n_iinc (lo' := [some (2, 44), none, some (0, v2 + (-1)), some (0, v3)]) dX1_findAll_80 rfl (by decide) h12.1 rfl ?_
          refine z_aload_n dX1_findAll_83 rfl ?_
          refine z_iload_n dX1_findAll_84 rfl ?_
          refine n_vN (as := [(0, v2 + (-1))]) (rest := []) dX1_findAll_85 zm_X1_takeUp zs_X1_59 k_44 (by decide) rfl rfl (Nat.le_of_ble_eq_true rfl) (Nat.le_of_ble_eq_true rfl) h12.2 (fun m13 h14 => ?_)
          refine n_iinc (lo' := [some (2, 44), none, some (0, v2 + (-1)), some (0, v3 + 1)]) dX1_findAll_88 rfl (by decide) h14.1 rfl ?_
          refine z_goto (tgt := 27) dX1_findAll_91 (by decide) ?_
          refine z_drop [some (2, 44), none, some (0, v2 + (-1)), some (0, v3 + 1)] ⟨rfl, rfl, rfl, trivial⟩ ?_
          exact h14.2
      · refine z_aload_n dX1_findAll_47 rfl ?_
        refine z_iload_n dX1_findAll_48 rfl ?_
        refine n_vI (as := [(0, v2)]) (rest := []) dX1_findAll_49 zm_X1_glueNext zs_X1_52 k_44 (by decide) rfl rfl (Nat.le_of_ble_eq_true rfl) (Nat.le_of_ble_eq_true rfl) (((h.2 q2).2 q4).2.2 q6) (fun x17 m15 h16 => ?_)
        refine z_if_eq (tgt := 66) dX1_findAll_52 (by decide) (fun q18 => ?_) (fun q19 => ?_)
        · refine z_iconst dX1_findAll_66 ⟨by decide, by decide⟩ ?_
          refine z_iload_n dX1_findAll_67 rfl ?_
          refine z_imul dX1_findAll_68 (h16.1 q18).1 ?_
          refine z_aload_n dX1_findAll_69 rfl ?_
          refine n_getf (ji := 3) (t := 0) dX1_findAll_70 zf_X1_23 k_44 rfl (by decide) rfl ?_
          refine z_icmp_ne (tgt := 80) dX1_findAll_73 (by decide) (fun q20 => ?_) (fun q21 => ?_)
          · refine n_iinc (lo' := [some (2, 44), none, some (0, v2 + (-1)), some (0, v3)]) dX1_findAll_80 rfl (by decide) ((h16.1 q18).2.1 q20).1 rfl ?_
            refine z_aload_n dX1_findAll_83 rfl ?_
            refine z_iload_n dX1_findAll_84 rfl ?_
            refine n_vN (as := [(0, v2 + (-1))]) (rest := []) dX1_findAll_85 zm_X1_takeUp zs_X1_59 k_44 (by decide) rfl rfl (Nat.le_of_ble_eq_true rfl) (Nat.le_of_ble_eq_true rfl) ((h16.1 q18).2.1 q20).2 (fun m22 h23 => ?_)
            refine n_iinc (lo' := [some (2, 44), none, some (0, v2 + (-1)), some (0, v3 + 1)]) dX1_findAll_88 rfl (by decide) h23.1 rfl ?_
            refine z_goto (tgt := 27) dX1_findAll_91 (by decide) ?_
            refine z_drop [some (2, 44), none, some (0, v2 + (-1)), some (0, v3 + 1)] ⟨rfl, rfl, rfl, trivial⟩ ?_
            exact h23.2
          · refine z_aload_n dX1_findAll_76 rfl ?_
            refine n_vN (as := []) (rest := []) dX1_findAll_77 zm_X1_store zs_X1_56 k_44 (by decide) rfl rfl (Nat.le_of_ble_eq_true rfl) (Nat.le_of_ble_eq_true rfl) ((h16.1 q18).2.2 q21) (fun m24 h25 => ?_)
            refine n_iinc (lo' := [some (2, 44), none, some (0, v2 + (-1)), some (0, v3)]) dX1_findAll_80 rfl (by decide) h25.1 rfl ?_
            refine z_aload_n dX1_findAll_83 rfl ?_
            refine z_iload_n dX1_findAll_84 rfl ?_
            refine n_vN (as := [(0, v2 + (-1))]) (rest := []) dX1_findAll_85 zm_X1_takeUp zs_X1_59 k_44 (by decide) rfl rfl (Nat.le_of_ble_eq_true rfl) (Nat.le_of_ble_eq_true rfl) h25.2 (fun m26 h27 => ?_)
            refine n_iinc (lo' := [some (2, 44), none, some (0, v2 + (-1)), some (0, v3 + 1)]) dX1_findAll_88 rfl (by decide) h27.1 rfl ?_
            refine z_goto (tgt := 27) dX1_findAll_91 (by decide) ?_
            refine z_drop [some (2, 44), none, some (0, v2 + (-1)), some (0, v3 + 1)] ⟨rfl, rfl, rfl, trivial⟩ ?_
            exact h27.2
        · refine n_iinc (lo' := [some (2, 44), none, some (0, v2 + 1), some (0, v3)]) dX1_findAll_55 rfl (by decide) (h16.2 q19).1 rfl ?_
          refine z_aload_n dX1_findAll_58 rfl ?_
          refine z_iload_n dX1_findAll_59 rfl ?_
          refine n_vN (as := [(0, v2 + 1)]) (rest := []) dX1_findAll_60 zm_X1_open zs_X1_47 k_44 (by decide) rfl rfl (Nat.le_of_ble_eq_true rfl) (Nat.le_of_ble_eq_true rfl) (h16.2 q19).2 (fun m28 h29 => ?_)
          refine z_goto (tgt := 88) dX1_findAll_63 (by decide) ?_
          refine n_iinc (lo' := [some (2, 44), none, some (0, v2 + 1), some (0, v3 + 1)]) dX1_findAll_88 rfl (by decide) h29.1 rfl ?_
          refine z_goto (tgt := 27) dX1_findAll_91 (by decide) ?_
          refine z_drop [some (2, 44), none, some (0, v2 + 1), some (0, v3 + 1)] ⟨rfl, rfl, rfl, trivial⟩ ?_
          exact h29.2
set_option maxRecDepth 20000 in
theorem V_X1_begin  {μ : z_Mem} {d : Nat} {K : z_Mem → Prop} (h : z_rn m_X1_begin 15 [some (2, 44), some (2, 39), some (0, 0)] (z_st μ 44 3 (min (μ 39 1) 22)) (d + 1) K) : z_cn m_X1_begin [(2, 44), (2, 39)] μ (d + 1) K := by
  show z_R m_X1_begin 0 [some (2, 44), some (2, 39), none] [] z_n μ (d + 1) _
  refine z_aload_n dX1_begin_0 rfl ?_
  refine z_aload_n dX1_begin_1 rfl ?_
  refine n_getf (ji := 1) (t := 0) dX1_begin_2 zf_X1_62 k_39 rfl (by decide) rfl ?_
  refine z_bipush dX1_begin_5 (by decide) ?_
  refine z_mmin dX1_begin_7 zq_1100 zq_592 zq_133 zq_593 (Nat.le_of_ble_eq_true rfl) ?_
  refine n_putI (ji := 3) dX1_begin_10 zf_X1_23 k_44 rfl (by decide) rfl ?_
  refine z_iconst dX1_begin_13 ⟨by decide, by decide⟩ ?_
  refine n_istore_n (lo' := [some (2, 44), some (2, 39), some (0, 0)]) dX1_begin_14 ⟨Nat.le_of_ble_eq_true rfl, Nat.le_of_ble_eq_true rfl⟩ rfl ?_
  refine z_drop [some (2, 44), some (2, 39), some (0, 0)] ⟨rfl, rfl, rfl, trivial⟩ ?_
  exact h
set_option maxRecDepth 20000 in
theorem V_X1_begin_15 {v2 : Int}  {μ : z_Mem} {d : Nat} {K : z_Mem → Prop} (h : (μ 44 3 ≤ v2 → K μ) ∧ (v2 < μ 44 3 → ((0 : Int) ≤ v2 ∧ v2 < 22) ∧ (((0 : Int) ≤ v2 ∧ v2 < 22) ∧ (((0 : Int) ≤ v2 ∧ v2 < 62) ∧ (((0 : Int) ≤ v2 ∧ v2 < 22) ∧ (z_I (v2 + 1) ∧ (z_rn m_X1_begin 15 [some (2, 44), some (2, 39), some (0, v2 + 1)] (z_st (z_st (z_st μ 45 v2 (-1)) 50 v2 v2) 63 v2 ((z_st (z_st μ 45 v2 (-1)) 50 v2 v2) 41 v2)) (d + 1) K))))))) : z_rn m_X1_begin 15 [some (2, 44), some (2, 39), some (0, v2)] μ (d + 1) K := by
  show z_R m_X1_begin 15 [some (2, 44), some (2, 39), some (0, v2)] [] z_n μ (d + 1) _
  refine z_iload_n dX1_begin_15 rfl ?_
  refine z_aload_n dX1_begin_16 rfl ?_
  refine n_getf (ji := 3) (t := 0) dX1_begin_17 zf_X1_23 k_44 rfl (by decide) rfl ?_
  refine z_icmp_ge (tgt := 59) dX1_begin_20 (by decide) (fun q1 => ?_) (fun q2 => ?_)
  · exact z_return dX1_begin_59 rfl rfl ⟨rfl, (h.1 q1)⟩
  · refine z_aload_n dX1_begin_23 rfl ?_
    refine n_getp (ji := 2) dX1_begin_24 zf_X1_19 k_44 rfl (by decide) rfl p_44_2 ?_
    refine z_iload_n dX1_begin_27 rfl ?_
    refine z_iconst dX1_begin_28 ⟨by decide, by decide⟩ ?_
    refine n_iast dX1_begin_29 k_45 (h.2 q2).1 ?_
    refine z_aload_n dX1_begin_30 rfl ?_
    refine n_getp (ji := 7) dX1_begin_31 zf_X1_37 k_44 rfl (by decide) rfl p_44_7 ?_
    refine z_iconst dX1_begin_34 ⟨by decide, by decide⟩ ?_
    refine n_aaldI dX1_begin_35 k_49 (by decide) p_49_0 ?_
    refine z_iload_n dX1_begin_36 rfl ?_
    refine z_iload_n dX1_begin_37 rfl ?_
    refine n_iast dX1_begin_38 k_50 (h.2 q2).2.1 ?_
    refine z_aload_n dX1_begin_39 rfl ?_
    refine n_getp (ji := 8) dX1_begin_40 zf_X1_40 k_44 rfl (by decide) rfl p_44_8 ?_
    refine z_iconst dX1_begin_43 ⟨by decide, by decide⟩ ?_
    refine n_aaldI dX1_begin_44 k_62 (by decide) p_62_0 ?_
    refine z_iload_n dX1_begin_45 rfl ?_
    refine z_aload_n dX1_begin_46 rfl ?_
    refine n_getp (ji := 3) dX1_begin_47 zf_X1_71 k_39 rfl (by decide) rfl p_39_3 ?_
    refine z_iload_n dX1_begin_50 rfl ?_
    refine n_iald dX1_begin_51 k_41 (h.2 q2).2.2.1 ?_
    refine n_iast dX1_begin_52 k_63 (h.2 q2).2.2.2.1 ?_
    refine n_iinc (lo' := [some (2, 44), some (2, 39), some (0, v2 + 1)]) dX1_begin_53 rfl (by decide) (h.2 q2).2.2.2.2.1 rfl ?_
    refine z_goto (tgt := 15) dX1_begin_56 (by decide) ?_
    refine z_drop [some (2, 44), some (2, 39), some (0, v2 + 1)] ⟨rfl, rfl, rfl, trivial⟩ ?_
    exact (h.2 q2).2.2.2.2.2
set_option maxRecDepth 20000 in
theorem V_X1_open {a : Int}  {μ : z_Mem} {d : Nat} {K : z_Mem → Prop} (h : z_rn m_X1_open 2 [some (2, 44), some (0, a), some (0, 0)] μ d K) : z_cn m_X1_open [(2, 44), (0, a)] μ d K := by
  show z_R m_X1_open 0 [some (2, 44), some (0, a), none] [] z_n μ d _
  refine z_iconst dX1_open_0 ⟨by decide, by decide⟩ ?_
  refine n_istore_n (lo' := [some (2, 44), some (0, a), some (0, 0)]) dX1_open_1 ⟨Nat.le_of_ble_eq_true rfl, Nat.le_of_ble_eq_true rfl⟩ rfl ?_
  refine z_drop [some (2, 44), some (0, a), some (0, 0)] ⟨rfl, rfl, rfl, trivial⟩ ?_
  exact h
set_option maxRecDepth 20000 in
theorem V_X1_open_2 {v1 v2 : Int}  {μ : z_Mem} {d : Nat} {K : z_Mem → Prop} (h : z_I ((μ 44 3) - 1) ∧ (((μ 44 3) - 1 ≤ v2 → ((0 : Int) ≤ v1 ∧ v1 < 12) ∧ (z_I (v2 - 1) ∧ (((0 : Int) ≤ v1 ∧ v1 < 12) ∧ (K (z_st (z_st μ 47 v1 v2) 48 v1 (v2 - 1)))))) ∧ (v2 < (μ 44 3) - 1 → ((0 : Int) ≤ v2 ∧ v2 < 22) ∧ ((μ 45 v2 = (-1) → ((0 : Int) ≤ v1 ∧ v1 < 12) ∧ (z_I (v2 - 1) ∧ (((0 : Int) ≤ v1 ∧ v1 < 12) ∧ (K (z_st (z_st μ 47 v1 v2) 48 v1 (v2 - 1)))))) ∧ (¬ μ 45 v2 = (-1) → z_I (v2 + 1) ∧ (z_rn m_X1_open 2 [some (2, 44), some (0, v1), some (0, v2 + 1)] μ d K)))))) : z_rn m_X1_open 2 [some (2, 44), some (0, v1), some (0, v2)] μ d K := by
  show z_R m_X1_open 2 [some (2, 44), some (0, v1), some (0, v2)] [] z_n μ d _
  refine z_iload_n dX1_open_2 rfl ?_
  refine z_aload_n dX1_open_3 rfl ?_
  refine n_getf (ji := 3) (t := 0) dX1_open_4 zf_X1_23 k_44 rfl (by decide) rfl ?_
  refine z_iconst dX1_open_7 ⟨by decide, by decide⟩ ?_
  refine z_isub dX1_open_8 h.1 ?_
  refine z_icmp_ge (tgt := 28) dX1_open_9 (by decide) (fun q1 => ?_) (fun q2 => ?_)
  · refine z_aload_n dX1_open_28 rfl ?_
    refine n_getp (ji := 5) dX1_open_29 zf_X1_29 k_44 rfl (by decide) rfl p_44_5 ?_
    refine z_iload_n dX1_open_32 rfl ?_
    refine z_iload_n dX1_open_33 rfl ?_
    refine n_iast dX1_open_34 k_47 (h.2.1 q1).1 ?_
    refine z_aload_n dX1_open_35 rfl ?_
    refine n_getp (ji := 6) dX1_open_36 zf_X1_32 k_44 rfl (by decide) rfl p_44_6 ?_
    refine z_iload_n dX1_open_39 rfl ?_
    refine z_iload_n dX1_open_40 rfl ?_
    refine z_iconst dX1_open_41 ⟨by decide, by decide⟩ ?_
    refine z_isub dX1_open_42 (h.2.1 q1).2.1 ?_
    refine n_iast dX1_open_43 k_48 (h.2.1 q1).2.2.1 ?_
    exact z_return dX1_open_44 rfl rfl ⟨rfl, (h.2.1 q1).2.2.2⟩
  · refine z_aload_n dX1_open_12 rfl ?_
    refine n_getp (ji := 2) dX1_open_13 zf_X1_19 k_44 rfl (by decide) rfl p_44_2 ?_
    refine z_iload_n dX1_open_16 rfl ?_
    refine n_iald dX1_open_17 k_45 (h.2.2 q2).1 ?_
    refine z_iconst dX1_open_18 ⟨by decide, by decide⟩ ?_
    refine z_icmp_eq (tgt := 28) dX1_open_19 (by decide) (fun q3 => ?_) (fun q4 => ?_)
    · refine z_aload_n dX1_open_28 rfl ?_
      refine n_getp (ji := 5) dX1_open_29 zf_X1_29 k_44 rfl (by decide) rfl p_44_5 ?_
      refine z_iload_n dX1_open_32 rfl ?_
      refine z_iload_n dX1_open_33 rfl ?_
      refine n_iast dX1_open_34 k_47 ((h.2.2 q2).2.1 q3).1 ?_
      refine z_aload_n dX1_open_35 rfl ?_
      refine n_getp (ji := 6) dX1_open_36 zf_X1_32 k_44 rfl (by decide) rfl p_44_6 ?_
      refine z_iload_n dX1_open_39 rfl ?_
      refine z_iload_n dX1_open_40 rfl ?_
      refine z_iconst dX1_open_41 ⟨by decide, by decide⟩ ?_
      refine z_isub dX1_open_42 ((h.2.2 q2).2.1 q3).2.1 ?_
      refine n_iast dX1_open_43 k_48 ((h.2.2 q2).2.1 q3).2.2.1 ?_
      exact z_return dX1_open_44 rfl rfl ⟨rfl, ((h.2.2 q2).2.1 q3).2.2.2⟩
    · refine n_iinc (lo' := [some (2, 44), some (0, v1), some (0, v2 + 1)]) dX1_open_22 rfl (by decide) ((h.2.2 q2).2.2 q4).1 rfl ?_
      refine z_goto (tgt := 2) dX1_open_25 (by decide) ?_
      refine z_drop [some (2, 44), some (0, v1), some (0, v2 + 1)] ⟨rfl, rfl, rfl, trivial⟩ ?_
      exact ((h.2.2 q2).2.2 q4).2
set_option maxRecDepth 20000 in
theorem V_X1_takeUp {a : Int}  {μ : z_Mem} {d : Nat} {K : z_Mem → Prop} (h : (a < 0 → K μ) ∧ (0 ≤ a → ((0 : Int) ≤ a ∧ a < 12) ∧ (((0 : Int) ≤ μ 47 a ∧ μ 47 a < 22) ∧ (((0 : Int) ≤ a ∧ a < 12) ∧ (((0 : Int) ≤ (z_st μ 45 (μ 47 a) (-1)) 48 a ∧ (z_st μ 45 (μ 47 a) (-1)) 48 a < 22) ∧ (K (z_st (z_st μ 45 (μ 47 a) (-1)) 45 ((z_st μ 45 (μ 47 a) (-1)) 48 a) (-1)))))))) : z_cn m_X1_takeUp [(2, 44), (0, a)] μ d K := by
  show z_R m_X1_takeUp 0 [some (2, 44), some (0, a)] [] z_n μ d _
  refine z_iload_n dX1_takeUp_0 rfl ?_
  refine z_if_lt (tgt := 28) dX1_takeUp_1 (by decide) (fun q1 => ?_) (fun q2 => ?_)
  · exact z_return dX1_takeUp_28 rfl rfl ⟨rfl, (h.1 q1)⟩
  · refine z_aload_n dX1_takeUp_4 rfl ?_
    refine n_getp (ji := 2) dX1_takeUp_5 zf_X1_19 k_44 rfl (by decide) rfl p_44_2 ?_
    refine z_aload_n dX1_takeUp_8 rfl ?_
    refine n_getp (ji := 5) dX1_takeUp_9 zf_X1_29 k_44 rfl (by decide) rfl p_44_5 ?_
    refine z_iload_n dX1_takeUp_12 rfl ?_
    refine n_iald dX1_takeUp_13 k_47 (h.2 q2).1 ?_
    refine z_iconst dX1_takeUp_14 ⟨by decide, by decide⟩ ?_
    refine n_iast dX1_takeUp_15 k_45 (h.2 q2).2.1 ?_
    refine z_aload_n dX1_takeUp_16 rfl ?_
    refine n_getp (ji := 2) dX1_takeUp_17 zf_X1_19 k_44 rfl (by decide) rfl p_44_2 ?_
    refine z_aload_n dX1_takeUp_20 rfl ?_
    refine n_getp (ji := 6) dX1_takeUp_21 zf_X1_32 k_44 rfl (by decide) rfl p_44_6 ?_
    refine z_iload_n dX1_takeUp_24 rfl ?_
    refine n_iald dX1_takeUp_25 k_48 (h.2 q2).2.2.1 ?_
    refine z_iconst dX1_takeUp_26 ⟨by decide, by decide⟩ ?_
    refine n_iast dX1_takeUp_27 k_45 (h.2 q2).2.2.2.1 ?_
    exact z_return dX1_takeUp_28 rfl rfl ⟨rfl, (h.2 q2).2.2.2.2⟩
set_option maxRecDepth 20000 in
theorem V_X1_glueNext {a : Int}  {μ : z_Mem} {d : Nat} {K : Int → z_Mem → Prop} (h : ((0 : Int) ≤ a ∧ a < 12) ∧ (((0 : Int) ≤ a ∧ a < 12) ∧ (z_I ((μ 48 a) + 2) ∧ (z_ri m_X1_glueNext 16 [some (2, 44), some (0, a), some (0, μ 47 a), some (0, (μ 48 a) + 2)] μ (d + 1) K)))) : z_ci m_X1_glueNext [(2, 44), (0, a)] μ (d + 1) K := by
  show z_R m_X1_glueNext 0 [some (2, 44), some (0, a), none, none] [] z_n μ (d + 1) _
  refine z_aload_n dX1_glueNext_0 rfl ?_
  refine n_getp (ji := 5) dX1_glueNext_1 zf_X1_29 k_44 rfl (by decide) rfl p_44_5 ?_
  refine z_iload_n dX1_glueNext_4 rfl ?_
  refine n_iald dX1_glueNext_5 k_47 h.1 ?_
  refine n_istore_n (lo' := [some (2, 44), some (0, a), some (0, μ 47 a), none]) dX1_glueNext_6 ⟨Nat.le_of_ble_eq_true rfl, Nat.le_of_ble_eq_true rfl⟩ rfl ?_
  refine z_aload_n dX1_glueNext_7 rfl ?_
  refine n_getp (ji := 6) dX1_glueNext_8 zf_X1_32 k_44 rfl (by decide) rfl p_44_6 ?_
  refine z_iload_n dX1_glueNext_11 rfl ?_
  refine n_iald dX1_glueNext_12 k_48 h.2.1 ?_
  refine z_iconst dX1_glueNext_13 ⟨by decide, by decide⟩ ?_
  refine z_iadd dX1_glueNext_14 h.2.2.1 ?_
  refine n_istore_n (lo' := [some (2, 44), some (0, a), some (0, μ 47 a), some (0, (μ 48 a) + 2)]) dX1_glueNext_15 ⟨Nat.le_of_ble_eq_true rfl, Nat.le_of_ble_eq_true rfl⟩ rfl ?_
  refine z_drop [some (2, 44), some (0, a), some (0, μ 47 a), some (0, (μ 48 a) + 2)] ⟨rfl, rfl, rfl, rfl, trivial⟩ ?_
  exact h.2.2.2
set_option maxRecDepth 20000 in
theorem V_X1_glueNext_16 {v1 v2 v3 : Int}  {μ : z_Mem} {d : Nat} {K : Int → z_Mem → Prop} (h : (μ 44 3 ≤ v3 → K 0 μ) ∧ (v3 < μ 44 3 → z_I (v3 - 1) ∧ (((0 : Int) ≤ v3 - 1 ∧ v3 - 1 < 22) ∧ ((¬ μ 45 (v3 - 1) = (-1) → K 0 μ) ∧ (μ 45 (v3 - 1) = (-1) → ((0 : Int) ≤ v1 ∧ v1 < 12) ∧ (z_I (v1 + 1) ∧ (((0 : Int) ≤ v1 + 1 ∧ v1 + 1 < 12) ∧ (((0 : Int) ≤ μ 44 3 ∧ μ 44 3 ≤ 22 ∧ μ 44 3 ≤ 22) ∧ (((0 : Int) ≤ v1 ∧ v1 < 12) ∧ (z_I (v1 + 1) ∧ (((0 : Int) ≤ v1 + 1 ∧ v1 + 1 < 12) ∧ (((0 : Int) ≤ (z_cpy μ (50 + v1) 0 (50 + (v1 + 1)) 0 (μ 44 3)) 44 3 ∧ (z_cpy μ (50 + v1) 0 (50 + (v1 + 1)) 0 (μ 44 3)) 44 3 ≤ 22 ∧ (z_cpy μ (50 + v1) 0 (50 + (v1 + 1)) 0 (μ 44 3)) 44 3 ≤ 22) ∧ (((0 : Int) ≤ v3 ∧ v3 < 22) ∧ ((¬ (z_cpy (z_cpy μ (50 + v1) 0 (50 + (v1 + 1)) 0 (μ 44 3)) (63 + v1) 0 (63 + (v1 + 1)) 0 ((z_cpy μ (50 + v1) 0 (50 + (v1 + 1)) 0 (μ 44 3)) 44 3)) 45 v3 = (-1) → z_I (v3 + 2) ∧ (z_ri m_X1_glueNext 16 [some (2, 44), some (0, v1), some (0, v2), some (0, v3 + 2)] (z_cpy (z_cpy μ (50 + v1) 0 (50 + (v1 + 1)) 0 (μ 44 3)) (63 + v1) 0 (63 + (v1 + 1)) 0 ((z_cpy μ (50 + v1) 0 (50 + (v1 + 1)) 0 (μ 44 3)) 44 3)) (d + 1) K)) ∧ ((z_cpy (z_cpy μ (50 + v1) 0 (50 + (v1 + 1)) 0 (μ 44 3)) (63 + v1) 0 (63 + (v1 + 1)) 0 ((z_cpy μ (50 + v1) 0 (50 + (v1 + 1)) 0 (μ 44 3)) 44 3)) 45 v3 = (-1) → z_I (v1 + 1) ∧ (z_ci m_X1_glueTwo [(2, 44), (0, v1 + 1), (0, v2), (0, v3)] (z_cpy (z_cpy μ (50 + v1) 0 (50 + (v1 + 1)) 0 (μ 44 3)) (63 + v1) 0 (63 + (v1 + 1)) 0 ((z_cpy μ (50 + v1) 0 (50 + (v1 + 1)) 0 (μ 44 3)) 44 3)) d (fun x9 m7 => (x9 = 0 → z_I (v3 + 2) ∧ (z_ri m_X1_glueNext 16 [some (2, 44), some (0, v1), some (0, v2), some (0, v3 + 2)] m7 (d + 1) K)) ∧ (¬ x9 = 0 → ((0 : Int) ≤ v2 ∧ v2 < 22) ∧ (((0 : Int) ≤ v3 ∧ v3 < 22) ∧ (((0 : Int) ≤ v1 ∧ v1 < 12) ∧ (K 1 (z_st (z_st (z_st m7 45 v2 v3) 45 v3 v2) 48 v1 v3)))))))))))))))))))))) : z_ri m_X1_glueNext 16 [some (2, 44), some (0, v1), some (0, v2), some (0, v3)] μ (d + 1) K := by
  show z_R m_X1_glueNext 16 [some (2, 44), some (0, v1), some (0, v2), some (0, v3)] [] z_n μ (d + 1) _
  refine z_iload_n dX1_glueNext_16 rfl ?_
  refine z_aload_n dX1_glueNext_17 rfl ?_
  refine n_getf (ji := 3) (t := 0) dX1_glueNext_18 zf_X1_23 k_44 rfl (by decide) rfl ?_
  refine z_icmp_ge (tgt := 133) dX1_glueNext_21 (by decide) (fun q1 => ?_) (fun q2 => ?_)
  · refine z_iconst dX1_glueNext_133 ⟨by decide, by decide⟩ ?_
    exact z_zreturn dX1_glueNext_134 rfl rfl (by decide) ⟨_, rfl, (h.1 q1)⟩
  · refine z_aload_n dX1_glueNext_24 rfl ?_
    refine n_getp (ji := 2) dX1_glueNext_25 zf_X1_19 k_44 rfl (by decide) rfl p_44_2 ?_
    refine z_iload_n dX1_glueNext_28 rfl ?_
    refine z_iconst dX1_glueNext_29 ⟨by decide, by decide⟩ ?_
    refine z_isub dX1_glueNext_30 (h.2 q2).1 ?_
    refine n_iald dX1_glueNext_31 k_45 (h.2 q2).2.1 ?_
    refine z_iconst dX1_glueNext_32 ⟨by decide, by decide⟩ ?_
    refine z_icmp_ne (tgt := 133) dX1_glueNext_33 (by decide) (fun q3 => ?_) (fun q4 => ?_)
    · refine z_iconst dX1_glueNext_133 ⟨by decide, by decide⟩ ?_
      exact z_zreturn dX1_glueNext_134 rfl rfl (by decide) ⟨_, rfl, ((h.2 q2).2.2.1 q3)⟩
    · refine z_aload_n dX1_glueNext_36 rfl ?_
      refine n_getp (ji := 7) dX1_glueNext_37 zf_X1_37 k_44 rfl (by decide) rfl p_44_7 ?_
      refine z_iload_n dX1_glueNext_40 rfl ?_
      refine n_aaldI dX1_glueNext_41 k_49 ((h.2 q2).2.2.2 q4).1 (r_49_p ((h.2 q2).2.2.2 q4).1) ?_
      refine z_iconst dX1_glueNext_42 ⟨by decide, by decide⟩ ?_
      refine z_aload_n dX1_glueNext_43 rfl ?_
      refine n_getp (ji := 7) dX1_glueNext_44 zf_X1_37 k_44 rfl (by decide) rfl p_44_7 ?_
      refine z_iload_n dX1_glueNext_47 rfl ?_
      refine z_iconst dX1_glueNext_48 ⟨by decide, by decide⟩ ?_
      refine z_iadd dX1_glueNext_49 ((h.2 q2).2.2.2 q4).2.1 ?_
      refine n_aaldI dX1_glueNext_50 k_49 ((h.2 q2).2.2.2 q4).2.2.1 (r_49_p ((h.2 q2).2.2.2 q4).2.2.1) ?_
      refine z_iconst dX1_glueNext_51 ⟨by decide, by decide⟩ ?_
      refine z_aload_n dX1_glueNext_52 rfl ?_
      refine n_getf (ji := 3) (t := 0) dX1_glueNext_53 zf_X1_23 k_44 rfl (by decide) rfl ?_
      refine z_acopy dX1_glueNext_56 zq_1110 zq_644 zq_643 zq_134 (Nat.le_of_ble_eq_true rfl) (z_isn (r_49_k ((h.2 q2).2.2.2 q4).1).1 (by decide)) (z_isn (r_49_k ((h.2 q2).2.2.2 q4).2.2.1).1 (by decide)) (by decide) (by decide) ((h.2 q2).2.2.2 q4).2.2.2.1.1 (by rw [(r_49_k ((h.2 q2).2.2.2 q4).1).2]; have := ((h.2 q2).2.2.2 q4).2.2.2.1; omega) (by rw [(r_49_k ((h.2 q2).2.2.2 q4).2.2.1).2]; have := ((h.2 q2).2.2.2 q4).2.2.2.1; omega) ?_
      refine z_aload_n dX1_glueNext_59 rfl ?_
      refine n_getp (ji := 8) dX1_glueNext_60 zf_X1_40 k_44 rfl (by decide) rfl p_44_8 ?_
      refine z_iload_n dX1_glueNext_63 rfl ?_
      refine n_aaldI dX1_glueNext_64 k_62 ((h.2 q2).2.2.2 q4).2.2.2.2.1 (r_62_p ((h.2 q2).2.2.2 q4).2.2.2.2.1) ?_
      refine z_iconst dX1_glueNext_65 ⟨by decide, by decide⟩ ?_
      refine z_aload_n dX1_glueNext_66 rfl ?_
      refine n_getp (ji := 8) dX1_glueNext_67 zf_X1_40 k_44 rfl (by decide) rfl p_44_8 ?_
      refine z_iload_n dX1_glueNext_70 rfl ?_
      refine z_iconst dX1_glueNext_71 ⟨by decide, by decide⟩ ?_
      refine z_iadd dX1_glueNext_72 ((h.2 q2).2.2.2 q4).2.2.2.2.2.1 ?_
      refine n_aaldI dX1_glueNext_73 k_62 ((h.2 q2).2.2.2 q4).2.2.2.2.2.2.1 (r_62_p ((h.2 q2).2.2.2 q4).2.2.2.2.2.2.1) ?_
      refine z_iconst dX1_glueNext_74 ⟨by decide, by decide⟩ ?_
      refine z_aload_n dX1_glueNext_75 rfl ?_
      refine n_getf (ji := 3) (t := 0) dX1_glueNext_76 zf_X1_23 k_44 rfl (by decide) rfl ?_
      refine z_acopy dX1_glueNext_79 zq_1110 zq_644 zq_643 zq_134 (Nat.le_of_ble_eq_true rfl) (z_isn (r_62_k ((h.2 q2).2.2.2 q4).2.2.2.2.1).1 (by decide)) (z_isn (r_62_k ((h.2 q2).2.2.2 q4).2.2.2.2.2.2.1).1 (by decide)) (by decide) (by decide) ((h.2 q2).2.2.2 q4).2.2.2.2.2.2.2.1.1 (by rw [(r_62_k ((h.2 q2).2.2.2 q4).2.2.2.2.1).2]; have := ((h.2 q2).2.2.2 q4).2.2.2.2.2.2.2.1; omega) (by rw [(r_62_k ((h.2 q2).2.2.2 q4).2.2.2.2.2.2.1).2]; have := ((h.2 q2).2.2.2 q4).2.2.2.2.2.2.2.1; omega) ?_
      refine z_aload_n dX1_glueNext_82 rfl ?_
      refine n_getp (ji := 2) dX1_glueNext_83 zf_X1_19 k_44 rfl (by decide) rfl p_44_2 ?_
      refine z_iload_n dX1_glueNext_86 rfl ?_
      refine n_iald dX1_glueNext_87 k_45 ((h.2 q2).2.2.2 q4).2.2.2.2.2.2.2.2.1 ?_
      refine z_iconst dX1_glueNext_88 ⟨by decide, by decide⟩ ?_
      refine z_icmp_ne (tgt := 127) dX1_glueNext_89 (by decide) (fun q5 => ?_) (fun q6 => ?_)
      · refine n_iinc (lo' := [some (2, 44), some (0, v1), some (0, v2), some (0, v3 + 2)]) dX1_glueNext_127 rfl (by decide) (((h.2 q2).2.2.2 q4).2.2.2.2.2.2.2.2.2.1 q5).1 rfl ?_
        refine z_goto (tgt := 16) dX1_glueNext_130 (by decide) ?_
        refine z_drop [some (2, 44), some (0, v1), some (0, v2), some (0, v3 + 2)] ⟨rfl, rfl, rfl, rfl, trivial⟩ ?_
        exact (((h.2 q2).2.2.2 q4).2.2.2.2.2.2.2.2.2.1 q5).2
      · refine z_aload_n dX1_glueNext_92 rfl ?_
        refine z_iload_n dX1_glueNext_93 rfl ?_
        refine z_iconst dX1_glueNext_94 ⟨by decide, by decide⟩ ?_
        refine z_iadd dX1_glueNext_95 (((h.2 q2).2.2.2 q4).2.2.2.2.2.2.2.2.2.2 q6).1 ?_
        refine z_iload_n dX1_glueNext_96 rfl ?_
        refine z_iload_n dX1_glueNext_97 rfl ?_
        refine n_vI (as := [(0, v1 + 1), (0, v2), (0, v3)]) (rest := []) dX1_glueNext_98 zm_X1_glueTwo zs_X1_80 k_44 (by decide) rfl rfl (Nat.le_of_ble_eq_true rfl) (Nat.le_of_ble_eq_true rfl) (((h.2 q2).2.2.2 q4).2.2.2.2.2.2.2.2.2.2 q6).2 (fun x9 m7 h8 => ?_)
        refine z_if_eq (tgt := 127) dX1_glueNext_101 (by decide) (fun q10 => ?_) (fun q11 => ?_)
        · refine n_iinc (lo' := [some (2, 44), some (0, v1), some (0, v2), some (0, v3 + 2)]) dX1_glueNext_127 rfl (by decide) (h8.1 q10).1 rfl ?_
          refine z_goto (tgt := 16) dX1_glueNext_130 (by decide) ?_
          refine z_drop [some (2, 44), some (0, v1), some (0, v2), some (0, v3 + 2)] ⟨rfl, rfl, rfl, rfl, trivial⟩ ?_
          exact (h8.1 q10).2
        · refine z_aload_n dX1_glueNext_104 rfl ?_
          refine n_getp (ji := 2) dX1_glueNext_105 zf_X1_19 k_44 rfl (by decide) rfl p_44_2 ?_
          refine z_iload_n dX1_glueNext_108 rfl ?_
          refine z_iload_n dX1_glueNext_109 rfl ?_
          refine n_iast dX1_glueNext_110 k_45 (h8.2 q11).1 ?_
          refine z_aload_n dX1_glueNext_111 rfl ?_
          refine n_getp (ji := 2) dX1_glueNext_112 zf_X1_19 k_44 rfl (by decide) rfl p_44_2 ?_
          refine z_iload_n dX1_glueNext_115 rfl ?_
          refine z_iload_n dX1_glueNext_116 rfl ?_
          refine n_iast dX1_glueNext_117 k_45 (h8.2 q11).2.1 ?_
          refine z_aload_n dX1_glueNext_118 rfl ?_
          refine n_getp (ji := 6) dX1_glueNext_119 zf_X1_32 k_44 rfl (by decide) rfl p_44_6 ?_
          refine z_iload_n dX1_glueNext_122 rfl ?_
          refine z_iload_n dX1_glueNext_123 rfl ?_
          refine n_iast dX1_glueNext_124 k_48 (h8.2 q11).2.2.1 ?_
          refine z_iconst dX1_glueNext_125 ⟨by decide, by decide⟩ ?_
          exact z_zreturn dX1_glueNext_126 rfl rfl (by decide) ⟨_, rfl, (h8.2 q11).2.2.2⟩
set_option maxRecDepth 20000 in
theorem V_X1_store  {μ : z_Mem} {d : Nat} {K : z_Mem → Prop} (h : (64 ≤ μ 44 1 → K μ) ∧ (μ 44 1 < 64 → z_ci m_X1_wordOf [(2, 44), (2, 45)] μ d (fun x5 m3 => ((0 : Int) ≤ μ 44 1 ∧ μ 44 1 < 64) ∧ (z_I (((z_st m3 46 (μ 44 1) x5) 44 1) + 1) ∧ (K (z_st (z_st m3 46 (μ 44 1) x5) 44 1 (((z_st m3 46 (μ 44 1) x5) 44 1) + 1))))))) : z_cn m_X1_store [(2, 44)] μ (d + 1) K := by
  show z_R m_X1_store 0 [some (2, 44)] [] z_n μ (d + 1) _
  refine z_aload_n dX1_store_0 rfl ?_
  refine n_getf (ji := 1) (t := 0) dX1_store_1 zf_X1_15 k_44 rfl (by decide) rfl ?_
  refine z_bipush dX1_store_4 (by decide) ?_
  refine z_icmp_ge (tgt := 36) dX1_store_6 (by decide) (fun q1 => ?_) (fun q2 => ?_)
  · exact z_return dX1_store_36 rfl rfl ⟨rfl, (h.1 q1)⟩
  · refine z_aload_n dX1_store_9 rfl ?_
    refine n_getp (ji := 4) dX1_store_10 zf_X1_26 k_44 rfl (by decide) rfl p_44_4 ?_
    refine z_aload_n dX1_store_13 rfl ?_
    refine n_getf (ji := 1) (t := 0) dX1_store_14 zf_X1_15 k_44 rfl (by decide) rfl ?_
    refine z_aload_n dX1_store_17 rfl ?_
    refine z_aload_n dX1_store_18 rfl ?_
    refine n_getp (ji := 2) dX1_store_19 zf_X1_19 k_44 rfl (by decide) rfl p_44_2 ?_
    refine n_vI (as := [(2, 45)]) (rest := [(0, μ 44 1), (2, 46)]) dX1_store_22 zm_X1_wordOf zs_X1_84 k_44 (by decide) rfl rfl (Nat.le_of_ble_eq_true rfl) (Nat.le_of_ble_eq_true rfl) (h.2 q2) (fun x5 m3 h4 => ?_)
    refine n_iast dX1_store_25 k_46 h4.1 ?_
    refine z_aload_n dX1_store_26 rfl ?_
    refine z_dup dX1_store_27 rfl ?_
    refine n_getf (ji := 1) (t := 0) dX1_store_28 zf_X1_15 k_44 rfl (by decide) rfl ?_
    refine z_iconst dX1_store_31 ⟨by decide, by decide⟩ ?_
    refine z_iadd dX1_store_32 h4.2.1 ?_
    refine n_putI (ji := 1) dX1_store_33 zf_X1_15 k_44 rfl (by decide) rfl ?_
    exact z_return dX1_store_36 rfl rfl ⟨rfl, h4.2.2⟩
set_option maxRecDepth 20000 in
theorem V_X1_wordOf {r0 n0 : Int} (hr0 : z_kd r0 = 14 ∧ z_ln r0 = n0) {μ : z_Mem} {d : Nat} {K : Int → z_Mem → Prop} (h : z_ri m_X1_wordOf 4 [some (2, 44), some (2, r0), some (0, 0), some (0, 0)] μ d K) : z_ci m_X1_wordOf [(2, 44), (2, r0)] μ d K := by
  show z_R m_X1_wordOf 0 [some (2, 44), some (2, r0), none, none] [] z_n μ d _
  refine z_iconst dX1_wordOf_0 ⟨by decide, by decide⟩ ?_
  refine n_istore_n (lo' := [some (2, 44), some (2, r0), some (0, 0), none]) dX1_wordOf_1 ⟨Nat.le_of_ble_eq_true rfl, Nat.le_of_ble_eq_true rfl⟩ rfl ?_
  refine z_iconst dX1_wordOf_2 ⟨by decide, by decide⟩ ?_
  refine n_istore_n (lo' := [some (2, 44), some (2, r0), some (0, 0), some (0, 0)]) dX1_wordOf_3 ⟨Nat.le_of_ble_eq_true rfl, Nat.le_of_ble_eq_true rfl⟩ rfl ?_
  refine z_drop [some (2, 44), some (2, r0), some (0, 0), some (0, 0)] ⟨rfl, rfl, rfl, rfl, trivial⟩ ?_
  exact h
set_option maxRecDepth 20000 in
theorem V_X1_wordOf_4 {v2 v3 r0 n0 : Int} (hr0 : z_kd r0 = 14 ∧ z_ln r0 = n0) {μ : z_Mem} {d : Nat} {K : Int → z_Mem → Prop} (h : (μ 44 3 ≤ v3 → K v2 μ) ∧ (v3 < μ 44 3 → ((0 : Int) ≤ v3 ∧ v3 < n0) ∧ ((μ r0 v3 ≤ v3 → z_I (v3 + 1) ∧ (z_ri m_X1_wordOf 4 [some (2, 44), some (2, r0), some (0, v2), some (0, v3 + 1)] μ d K)) ∧ (v3 < μ r0 v3 → ((0 : Int) ≤ v3 ∧ v3 < 31) ∧ (((0 : Int) ≤ v2 ∧ (0 : Int) ≤ (2 : Int) ^ (v3 : Int).toNat) ∧ (z_I (v3 + 1) ∧ (z_ri m_X1_wordOf 4 [some (2, 44), some (2, r0), some (0, ((((v2 : Int).toNat ||| ((2 : Int) ^ (v3 : Int).toNat : Int).toNat : Nat)) : Int)), some (0, v3 + 1)] μ d K))))))) : z_ri m_X1_wordOf 4 [some (2, 44), some (2, r0), some (0, v2), some (0, v3)] μ d K := by
  show z_R m_X1_wordOf 4 [some (2, 44), some (2, r0), some (0, v2), some (0, v3)] [] z_n μ d _
  refine z_iload_n dX1_wordOf_4 rfl ?_
  refine z_aload_n dX1_wordOf_5 rfl ?_
  refine n_getf (ji := 3) (t := 0) dX1_wordOf_6 zf_X1_23 k_44 rfl (by decide) rfl ?_
  refine z_icmp_ge (tgt := 31) dX1_wordOf_9 (by decide) (fun q1 => ?_) (fun q2 => ?_)
  · refine z_iload_n dX1_wordOf_31 rfl ?_
    exact z_ireturn dX1_wordOf_32 rfl rfl ⟨_, rfl, (h.1 q1)⟩
  · refine z_aload_n dX1_wordOf_12 rfl ?_
    refine z_iload_n dX1_wordOf_13 rfl ?_
    refine n_iald dX1_wordOf_14 hr0 (h.2 q2).1 ?_
    refine z_iload_n dX1_wordOf_15 rfl ?_
    refine z_icmp_le (tgt := 25) dX1_wordOf_16 (by decide) (fun q3 => ?_) (fun q4 => ?_)
    · refine n_iinc (lo' := [some (2, 44), some (2, r0), some (0, v2), some (0, v3 + 1)]) dX1_wordOf_25 rfl (by decide) ((h.2 q2).2.1 q3).1 rfl ?_
      refine z_goto (tgt := 4) dX1_wordOf_28 (by decide) ?_
      refine z_drop [some (2, 44), some (2, r0), some (0, v2), some (0, v3 + 1)] ⟨rfl, rfl, rfl, rfl, trivial⟩ ?_
      exact ((h.2 q2).2.1 q3).2
    · refine z_iload_n dX1_wordOf_19 rfl ?_
      refine z_iconst dX1_wordOf_20 ⟨by decide, by decide⟩ ?_
      refine z_iload_n dX1_wordOf_21 rfl ?_
      refine n_ishl1 dX1_wordOf_22 ((h.2 q2).2.2 q4).1 ?_
      refine z_ior dX1_wordOf_23 ((h.2 q2).2.2 q4).2.1.1 ((h.2 q2).2.2 q4).2.1.2 ?_
      refine n_istore_n (lo' := [some (2, 44), some (2, r0), some (0, ((((v2 : Int).toNat ||| ((2 : Int) ^ (v3 : Int).toNat : Int).toNat : Nat)) : Int)), some (0, v3)]) dX1_wordOf_24 ⟨Nat.le_of_ble_eq_true rfl, Nat.le_of_ble_eq_true rfl⟩ rfl ?_
      refine n_iinc (lo' := [some (2, 44), some (2, r0), some (0, ((((v2 : Int).toNat ||| ((2 : Int) ^ (v3 : Int).toNat : Int).toNat : Nat)) : Int)), some (0, v3 + 1)]) dX1_wordOf_25 rfl (by decide) ((h.2 q2).2.2 q4).2.2.1 rfl ?_
      refine z_goto (tgt := 4) dX1_wordOf_28 (by decide) ?_
      refine z_drop [some (2, 44), some (2, r0), some (0, ((((v2 : Int).toNat ||| ((2 : Int) ^ (v3 : Int).toNat : Int).toNat : Nat)) : Int)), some (0, v3 + 1)] ⟨rfl, rfl, rfl, rfl, trivial⟩ ?_
      exact ((h.2 q2).2.2 q4).2.2.2
set_option maxRecDepth 20000 in
theorem V_X1_glueTwo {a b c : Int}  {μ : z_Mem} {d : Nat} {K : Int → z_Mem → Prop} (h : z_I (c + 1) ∧ ((μ 44 3 ≤ c + 1 → z_ci m_X1_makeOne [(2, 44), (0, a), (0, b), (0, 0)] μ d (fun x5 m3 => (x5 = 0 → K 0 m3) ∧ (¬ x5 = 0 → z_I (b + 1) ∧ (z_ci m_X1_makeOne [(2, 44), (0, a), (0, b + 1), (0, c)] m3 d (fun x10 m8 => (x10 = 0 → K 0 m8) ∧ (¬ x10 = 0 → K 1 m8)))))) ∧ (c + 1 < μ 44 3 → z_I (c + 1) ∧ (z_ci m_X1_makeOne [(2, 44), (0, a), (0, b), (0, c + 1)] μ d (fun x15 m13 => (x15 = 0 → K 0 m13) ∧ (¬ x15 = 0 → z_I (b + 1) ∧ (z_ci m_X1_makeOne [(2, 44), (0, a), (0, b + 1), (0, c)] m13 d (fun x20 m18 => (x20 = 0 → K 0 m18) ∧ (¬ x20 = 0 → K 1 m18))))))))) : z_ci m_X1_glueTwo [(2, 44), (0, a), (0, b), (0, c)] μ (d + 1) K := by
  show z_R m_X1_glueTwo 0 [some (2, 44), some (0, a), some (0, b), some (0, c), none] [] z_n μ (d + 1) _
  refine z_iload_n dX1_glueTwo_0 rfl ?_
  refine z_iconst dX1_glueTwo_1 ⟨by decide, by decide⟩ ?_
  refine z_iadd dX1_glueTwo_2 h.1 ?_
  refine z_aload_n dX1_glueTwo_3 rfl ?_
  refine n_getf (ji := 3) (t := 0) dX1_glueTwo_4 zf_X1_23 k_44 rfl (by decide) rfl ?_
  refine z_icmp_ge (tgt := 16) dX1_glueTwo_7 (by decide) (fun q1 => ?_) (fun q2 => ?_)
  · refine z_iconst dX1_glueTwo_16 ⟨by decide, by decide⟩ ?_
    refine n_istore (lo' := [some (2, 44), some (0, a), some (0, b), some (0, c), some (0, 0)]) dX1_glueTwo_17 ⟨Nat.le_of_ble_eq_true rfl, Nat.le_of_ble_eq_true rfl⟩ rfl ?_
    refine z_aload_n dX1_glueTwo_19 rfl ?_
    refine z_iload_n dX1_glueTwo_20 rfl ?_
    refine z_iload_n dX1_glueTwo_21 rfl ?_
    refine z_iload dX1_glueTwo_22 rfl ?_
    refine n_vI (as := [(0, a), (0, b), (0, 0)]) (rest := []) dX1_glueTwo_24 zm_X1_makeOne zs_X1_88 k_44 (by decide) rfl rfl (Nat.le_of_ble_eq_true rfl) (Nat.le_of_ble_eq_true rfl) (h.2.1 q1) (fun x5 m3 h4 => ?_)
    refine z_if_eq (tgt := 46) dX1_glueTwo_27 (by decide) (fun q6 => ?_) (fun q7 => ?_)
    · refine z_iconst dX1_glueTwo_46 ⟨by decide, by decide⟩ ?_
      exact z_zreturn dX1_glueTwo_47 rfl rfl (by decide) ⟨_, rfl, (h4.1 q6)⟩
    · refine z_aload_n dX1_glueTwo_30 rfl ?_
      refine z_iload_n dX1_glueTwo_31 rfl ?_
      refine z_iload_n dX1_glueTwo_32 rfl ?_
      refine z_iconst dX1_glueTwo_33 ⟨by decide, by decide⟩ ?_
      refine z_iadd dX1_glueTwo_34 (h4.2 q7).1 ?_
      refine z_iload_n dX1_glueTwo_35 rfl ?_
      refine n_vI (as := [(0, a), (0, b + 1), (0, c)]) (rest := []) dX1_glueTwo_36 zm_X1_makeOne zs_X1_88 k_44 (by decide) rfl rfl (Nat.le_of_ble_eq_true rfl) (Nat.le_of_ble_eq_true rfl) (h4.2 q7).2 (fun x10 m8 h9 => ?_)
      refine z_if_eq (tgt := 46) dX1_glueTwo_39 (by decide) (fun q11 => ?_) (fun q12 => ?_)
      · refine z_iconst dX1_glueTwo_46 ⟨by decide, by decide⟩ ?_
        exact z_zreturn dX1_glueTwo_47 rfl rfl (by decide) ⟨_, rfl, (h9.1 q11)⟩
      · refine z_iconst dX1_glueTwo_42 ⟨by decide, by decide⟩ ?_
        refine z_goto (tgt := 47) dX1_glueTwo_43 (by decide) ?_
        exact z_zreturn dX1_glueTwo_47 rfl rfl (by decide) ⟨_, rfl, (h9.2 q12)⟩
  · refine z_iload_n dX1_glueTwo_10 rfl ?_
    refine z_iconst dX1_glueTwo_11 ⟨by decide, by decide⟩ ?_
    refine z_iadd dX1_glueTwo_12 (h.2.2 q2).1 ?_
    refine z_goto (tgt := 17) dX1_glueTwo_13 (by decide) ?_
    refine n_istore (lo' := [some (2, 44), some (0, a), some (0, b), some (0, c), some (0, c + 1)]) dX1_glueTwo_17 ⟨Nat.le_of_ble_eq_true rfl, Nat.le_of_ble_eq_true rfl⟩ rfl ?_
    refine z_aload_n dX1_glueTwo_19 rfl ?_
    refine z_iload_n dX1_glueTwo_20 rfl ?_
    refine z_iload_n dX1_glueTwo_21 rfl ?_
    refine z_iload dX1_glueTwo_22 rfl ?_
    refine n_vI (as := [(0, a), (0, b), (0, c + 1)]) (rest := []) dX1_glueTwo_24 zm_X1_makeOne zs_X1_88 k_44 (by decide) rfl rfl (Nat.le_of_ble_eq_true rfl) (Nat.le_of_ble_eq_true rfl) (h.2.2 q2).2 (fun x15 m13 h14 => ?_)
    refine z_if_eq (tgt := 46) dX1_glueTwo_27 (by decide) (fun q16 => ?_) (fun q17 => ?_)
    · refine z_iconst dX1_glueTwo_46 ⟨by decide, by decide⟩ ?_
      exact z_zreturn dX1_glueTwo_47 rfl rfl (by decide) ⟨_, rfl, (h14.1 q16)⟩
    · refine z_aload_n dX1_glueTwo_30 rfl ?_
      refine z_iload_n dX1_glueTwo_31 rfl ?_
      refine z_iload_n dX1_glueTwo_32 rfl ?_
      refine z_iconst dX1_glueTwo_33 ⟨by decide, by decide⟩ ?_
      refine z_iadd dX1_glueTwo_34 (h14.2 q17).1 ?_
      refine z_iload_n dX1_glueTwo_35 rfl ?_
      refine n_vI (as := [(0, a), (0, b + 1), (0, c)]) (rest := []) dX1_glueTwo_36 zm_X1_makeOne zs_X1_88 k_44 (by decide) rfl rfl (Nat.le_of_ble_eq_true rfl) (Nat.le_of_ble_eq_true rfl) (h14.2 q17).2 (fun x20 m18 h19 => ?_)
      refine z_if_eq (tgt := 46) dX1_glueTwo_39 (by decide) (fun q21 => ?_) (fun q22 => ?_)
      · refine z_iconst dX1_glueTwo_46 ⟨by decide, by decide⟩ ?_
        exact z_zreturn dX1_glueTwo_47 rfl rfl (by decide) ⟨_, rfl, (h19.1 q21)⟩
      · refine z_iconst dX1_glueTwo_42 ⟨by decide, by decide⟩ ?_
        refine z_goto (tgt := 47) dX1_glueTwo_43 (by decide) ?_
        exact z_zreturn dX1_glueTwo_47 rfl rfl (by decide) ⟨_, rfl, (h19.2 q22)⟩
set_option maxRecDepth 20000 in
theorem V_X1_makeOne {a b c : Int}  {μ : z_Mem} {d : Nat} {K : Int → z_Mem → Prop} (h : ((0 : Int) ≤ a ∧ a < 12) ∧ (((0 : Int) ≤ b ∧ b < 22) ∧ (((0 : Int) ≤ a ∧ a < 12) ∧ (((0 : Int) ≤ c ∧ c < 22) ∧ ((¬ μ (50 + a) b = μ (50 + a) c → ((0 : Int) ≤ a ∧ a < 12) ∧ (((0 : Int) ≤ μ (50 + a) b ∧ μ (50 + a) b < 22) ∧ (((0 : Int) ≤ a ∧ a < 12) ∧ (((0 : Int) ≤ μ (50 + a) c ∧ μ (50 + a) c < 22) ∧ (z_I ((μ (63 + a) (μ (50 + a) b)) + (μ (63 + a) (μ (50 + a) c))) ∧ (((0 : Int) ≤ μ (50 + a) b ∧ μ (50 + a) b < 22) ∧ (z_ri m_X1_makeOne 70 [some (2, 44), some (0, a), none, none, some (0, μ (50 + a) b), some (0, μ (50 + a) c), some (0, 0)] (z_st μ (63 + a) (μ (50 + a) b) ((μ (63 + a) (μ (50 + a) b)) + (μ (63 + a) (μ (50 + a) c)))) d K))))))) ∧ (μ (50 + a) b = μ (50 + a) c → ((0 : Int) ≤ a ∧ a < 12) ∧ (((0 : Int) ≤ μ (50 + a) b ∧ μ (50 + a) b < 22) ∧ ((4 < μ (63 + a) (μ (50 + a) b) → K 0 μ) ∧ (μ (63 + a) (μ (50 + a) b) ≤ 4 → K 1 μ))))))))) : z_ci m_X1_makeOne [(2, 44), (0, a), (0, b), (0, c)] μ d K := by
  show z_R m_X1_makeOne 0 [some (2, 44), some (0, a), some (0, b), some (0, c), none, none, none] [] z_n μ d _
  refine z_aload_n dX1_makeOne_0 rfl ?_
  refine n_getp (ji := 7) dX1_makeOne_1 zf_X1_37 k_44 rfl (by decide) rfl p_44_7 ?_
  refine z_iload_n dX1_makeOne_4 rfl ?_
  refine n_aaldI dX1_makeOne_5 k_49 h.1 (r_49_p h.1) ?_
  refine z_iload_n dX1_makeOne_6 rfl ?_
  refine n_iald dX1_makeOne_7 (r_49_k h.1) h.2.1 ?_
  refine n_istore (lo' := [some (2, 44), some (0, a), some (0, b), some (0, c), some (0, μ (50 + a) b), none, none]) dX1_makeOne_8 ⟨Nat.le_of_ble_eq_true rfl, Nat.le_of_ble_eq_true rfl⟩ rfl ?_
  refine z_aload_n dX1_makeOne_10 rfl ?_
  refine n_getp (ji := 7) dX1_makeOne_11 zf_X1_37 k_44 rfl (by decide) rfl p_44_7 ?_
  refine z_iload_n dX1_makeOne_14 rfl ?_
  refine n_aaldI dX1_makeOne_15 k_49 h.2.2.1 (r_49_p h.2.2.1) ?_
  refine z_iload_n dX1_makeOne_16 rfl ?_
  refine n_iald dX1_makeOne_17 (r_49_k h.2.2.1) h.2.2.2.1 ?_
  refine n_istore (lo' := [some (2, 44), some (0, a), some (0, b), some (0, c), some (0, μ (50 + a) b), some (0, μ (50 + a) c), none]) dX1_makeOne_18 ⟨Nat.le_of_ble_eq_true rfl, Nat.le_of_ble_eq_true rfl⟩ rfl ?_
  refine z_iload dX1_makeOne_20 rfl ?_
  refine z_iload dX1_makeOne_22 rfl ?_
  refine z_icmp_ne (tgt := 46) dX1_makeOne_24 (by decide) (fun q1 => ?_) (fun q2 => ?_)
  · refine z_aload_n dX1_makeOne_46 rfl ?_
    refine n_getp (ji := 8) dX1_makeOne_47 zf_X1_40 k_44 rfl (by decide) rfl p_44_8 ?_
    refine z_iload_n dX1_makeOne_50 rfl ?_
    refine n_aaldI dX1_makeOne_51 k_62 (h.2.2.2.2.1 q1).1 (r_62_p (h.2.2.2.2.1 q1).1) ?_
    refine z_iload dX1_makeOne_52 rfl ?_
    refine z_dup2 dX1_makeOne_54 rfl rfl ?_
    refine n_iald dX1_makeOne_55 (r_62_k (h.2.2.2.2.1 q1).1) (h.2.2.2.2.1 q1).2.1 ?_
    refine z_aload_n dX1_makeOne_56 rfl ?_
    refine n_getp (ji := 8) dX1_makeOne_57 zf_X1_40 k_44 rfl (by decide) rfl p_44_8 ?_
    refine z_iload_n dX1_makeOne_60 rfl ?_
    refine n_aaldI dX1_makeOne_61 k_62 (h.2.2.2.2.1 q1).2.2.1 (r_62_p (h.2.2.2.2.1 q1).2.2.1) ?_
    refine z_iload dX1_makeOne_62 rfl ?_
    refine n_iald dX1_makeOne_64 (r_62_k (h.2.2.2.2.1 q1).2.2.1) (h.2.2.2.2.1 q1).2.2.2.1 ?_
    refine z_iadd dX1_makeOne_65 (h.2.2.2.2.1 q1).2.2.2.2.1 ?_
    refine n_iast dX1_makeOne_66 (r_62_k (h.2.2.2.2.1 q1).1) (h.2.2.2.2.1 q1).2.2.2.2.2.1 ?_
    refine z_iconst dX1_makeOne_67 ⟨by decide, by decide⟩ ?_
    refine n_istore (lo' := [some (2, 44), some (0, a), some (0, b), some (0, c), some (0, μ (50 + a) b), some (0, μ (50 + a) c), some (0, 0)]) dX1_makeOne_68 ⟨Nat.le_of_ble_eq_true rfl, Nat.le_of_ble_eq_true rfl⟩ rfl ?_
    refine z_drop [some (2, 44), some (0, a), none, none, some (0, μ (50 + a) b), some (0, μ (50 + a) c), some (0, 0)] ⟨rfl, rfl, rfl, rfl, rfl, trivial⟩ ?_
    exact (h.2.2.2.2.1 q1).2.2.2.2.2.2
  · refine z_aload_n dX1_makeOne_27 rfl ?_
    refine n_getp (ji := 8) dX1_makeOne_28 zf_X1_40 k_44 rfl (by decide) rfl p_44_8 ?_
    refine z_iload_n dX1_makeOne_31 rfl ?_
    refine n_aaldI dX1_makeOne_32 k_62 (h.2.2.2.2.2 q2).1 (r_62_p (h.2.2.2.2.2 q2).1) ?_
    refine z_iload dX1_makeOne_33 rfl ?_
    refine n_iald dX1_makeOne_35 (r_62_k (h.2.2.2.2.2 q2).1) (h.2.2.2.2.2 q2).2.1 ?_
    refine z_iconst dX1_makeOne_36 ⟨by decide, by decide⟩ ?_
    refine z_icmp_gt (tgt := 44) dX1_makeOne_37 (by decide) (fun q3 => ?_) (fun q4 => ?_)
    · refine z_iconst dX1_makeOne_44 ⟨by decide, by decide⟩ ?_
      exact z_zreturn dX1_makeOne_45 rfl rfl (by decide) ⟨_, rfl, ((h.2.2.2.2.2 q2).2.2.1 q3)⟩
    · refine z_iconst dX1_makeOne_40 ⟨by decide, by decide⟩ ?_
      refine z_goto (tgt := 45) dX1_makeOne_41 (by decide) ?_
      exact z_zreturn dX1_makeOne_45 rfl rfl (by decide) ⟨_, rfl, ((h.2.2.2.2.2 q2).2.2.2 q4)⟩
set_option maxRecDepth 20000 in
theorem V_X1_makeOne_70 {v1 v4 v5 v6 : Int}  {μ : z_Mem} {d : Nat} {K : Int → z_Mem → Prop} (h : (μ 44 3 ≤ v6 → ((0 : Int) ≤ v1 ∧ v1 < 12) ∧ (((0 : Int) ≤ v4 ∧ v4 < 22) ∧ ((4 < μ (63 + v1) v4 → K 0 μ) ∧ (μ (63 + v1) v4 ≤ 4 → K 1 μ)))) ∧ (v6 < μ 44 3 → ((0 : Int) ≤ v1 ∧ v1 < 12) ∧ (((0 : Int) ≤ v6 ∧ v6 < 22) ∧ ((¬ μ (50 + v1) v6 = v5 → z_I (v6 + 1) ∧ (z_ri m_X1_makeOne 70 [some (2, 44), some (0, v1), none, none, some (0, v4), some (0, v5), some (0, v6 + 1)] μ d K)) ∧ (μ (50 + v1) v6 = v5 → ((0 : Int) ≤ v1 ∧ v1 < 12) ∧ (((0 : Int) ≤ v6 ∧ v6 < 22) ∧ (z_I (v6 + 1) ∧ (z_ri m_X1_makeOne 70 [some (2, 44), some (0, v1), none, none, some (0, v4), some (0, v5), some (0, v6 + 1)] (z_st μ (50 + v1) v6 v4) d K)))))))) : z_ri m_X1_makeOne 70 [some (2, 44), some (0, v1), none, none, some (0, v4), some (0, v5), some (0, v6)] μ d K := by
  show z_R m_X1_makeOne 70 [some (2, 44), some (0, v1), none, none, some (0, v4), some (0, v5), some (0, v6)] [] z_n μ d _
  refine z_iload dX1_makeOne_70 rfl ?_
  refine z_aload_n dX1_makeOne_72 rfl ?_
  refine n_getf (ji := 3) (t := 0) dX1_makeOne_73 zf_X1_23 k_44 rfl (by decide) rfl ?_
  refine z_icmp_ge (tgt := 110) dX1_makeOne_76 (by decide) (fun q1 => ?_) (fun q2 => ?_)
  · refine z_aload_n dX1_makeOne_110 rfl ?_
    refine n_getp (ji := 8) dX1_makeOne_111 zf_X1_40 k_44 rfl (by decide) rfl p_44_8 ?_
    refine z_iload_n dX1_makeOne_114 rfl ?_
    refine n_aaldI dX1_makeOne_115 k_62 (h.1 q1).1 (r_62_p (h.1 q1).1) ?_
    refine z_iload dX1_makeOne_116 rfl ?_
    refine n_iald dX1_makeOne_118 (r_62_k (h.1 q1).1) (h.1 q1).2.1 ?_
    refine z_iconst dX1_makeOne_119 ⟨by decide, by decide⟩ ?_
    refine z_icmp_gt (tgt := 127) dX1_makeOne_120 (by decide) (fun q3 => ?_) (fun q4 => ?_)
    · refine z_iconst dX1_makeOne_127 ⟨by decide, by decide⟩ ?_
      exact z_zreturn dX1_makeOne_128 rfl rfl (by decide) ⟨_, rfl, ((h.1 q1).2.2.1 q3)⟩
    · refine z_iconst dX1_makeOne_123 ⟨by decide, by decide⟩ ?_
      refine z_goto (tgt := 128) dX1_makeOne_124 (by decide) ?_
      exact z_zreturn dX1_makeOne_128 rfl rfl (by decide) ⟨_, rfl, ((h.1 q1).2.2.2 q4)⟩
  · refine z_aload_n dX1_makeOne_79 rfl ?_
    refine n_getp (ji := 7) dX1_makeOne_80 zf_X1_37 k_44 rfl (by decide) rfl p_44_7 ?_
    refine z_iload_n dX1_makeOne_83 rfl ?_
    refine n_aaldI dX1_makeOne_84 k_49 (h.2 q2).1 (r_49_p (h.2 q2).1) ?_
    refine z_iload dX1_makeOne_85 rfl ?_
    refine n_iald dX1_makeOne_87 (r_49_k (h.2 q2).1) (h.2 q2).2.1 ?_
    refine z_iload dX1_makeOne_88 rfl ?_
    refine z_icmp_ne (tgt := 104) dX1_makeOne_90 (by decide) (fun q5 => ?_) (fun q6 => ?_)
    · refine n_iinc (lo' := [some (2, 44), some (0, v1), none, none, some (0, v4), some (0, v5), some (0, v6 + 1)]) dX1_makeOne_104 rfl (by decide) ((h.2 q2).2.2.1 q5).1 rfl ?_
      refine z_goto (tgt := 70) dX1_makeOne_107 (by decide) ?_
      refine z_drop [some (2, 44), some (0, v1), none, none, some (0, v4), some (0, v5), some (0, v6 + 1)] ⟨rfl, rfl, rfl, rfl, rfl, trivial⟩ ?_
      exact ((h.2 q2).2.2.1 q5).2
    · refine z_aload_n dX1_makeOne_93 rfl ?_
      refine n_getp (ji := 7) dX1_makeOne_94 zf_X1_37 k_44 rfl (by decide) rfl p_44_7 ?_
      refine z_iload_n dX1_makeOne_97 rfl ?_
      refine n_aaldI dX1_makeOne_98 k_49 ((h.2 q2).2.2.2 q6).1 (r_49_p ((h.2 q2).2.2.2 q6).1) ?_
      refine z_iload dX1_makeOne_99 rfl ?_
      refine z_iload dX1_makeOne_101 rfl ?_
      refine n_iast dX1_makeOne_103 (r_49_k ((h.2 q2).2.2.2 q6).1) ((h.2 q2).2.2.2 q6).2.1 ?_
      refine n_iinc (lo' := [some (2, 44), some (0, v1), none, none, some (0, v4), some (0, v5), some (0, v6 + 1)]) dX1_makeOne_104 rfl (by decide) ((h.2 q2).2.2.2 q6).2.2.1 rfl ?_
      refine z_goto (tgt := 70) dX1_makeOne_107 (by decide) ?_
      refine z_drop [some (2, 44), some (0, v1), none, none, some (0, v4), some (0, v5), some (0, v6 + 1)] ⟨rfl, rfl, rfl, rfl, rfl, trivial⟩ ?_
      exact ((h.2 q2).2.2.2 q6).2.2.2
set_option maxRecDepth 20000 in
theorem V_X1_unpack {a : Int}  {μ : z_Mem} {d : Nat} {K : Int → z_Mem → Prop} (h : (a < 0 → K 0 μ) ∧ (0 ≤ a → (a < μ 44 1 → z_ri m_X1_unpack 16 [some (2, 44), some (0, a), some (0, 0)] μ (d + 1) K) ∧ (μ 44 1 ≤ a → K 0 μ))) : z_ci m_X1_unpack [(2, 44), (0, a)] μ (d + 1) K := by
  show z_R m_X1_unpack 0 [some (2, 44), some (0, a), none] [] z_n μ (d + 1) _
  refine z_iload_n dX1_unpack_0 rfl ?_
  refine z_if_lt (tgt := 12) dX1_unpack_1 (by decide) (fun q1 => ?_) (fun q2 => ?_)
  · refine z_iconst dX1_unpack_12 ⟨by decide, by decide⟩ ?_
    exact z_zreturn dX1_unpack_13 rfl rfl (by decide) ⟨_, rfl, (h.1 q1)⟩
  · refine z_iload_n dX1_unpack_4 rfl ?_
    refine z_aload_n dX1_unpack_5 rfl ?_
    refine n_getf (ji := 1) (t := 0) dX1_unpack_6 zf_X1_15 k_44 rfl (by decide) rfl ?_
    refine z_icmp_lt (tgt := 14) dX1_unpack_9 (by decide) (fun q3 => ?_) (fun q4 => ?_)
    · refine z_iconst dX1_unpack_14 ⟨by decide, by decide⟩ ?_
      refine n_istore_n (lo' := [some (2, 44), some (0, a), some (0, 0)]) dX1_unpack_15 ⟨Nat.le_of_ble_eq_true rfl, Nat.le_of_ble_eq_true rfl⟩ rfl ?_
      refine z_drop [some (2, 44), some (0, a), some (0, 0)] ⟨rfl, rfl, rfl, trivial⟩ ?_
      exact ((h.2 q2).1 q3)
    · refine z_iconst dX1_unpack_12 ⟨by decide, by decide⟩ ?_
      exact z_zreturn dX1_unpack_13 rfl rfl (by decide) ⟨_, rfl, ((h.2 q2).2 q4)⟩
set_option maxRecDepth 20000 in
theorem V_X1_unpack_16 {v1 v2 : Int}  {μ : z_Mem} {d : Nat} {K : Int → z_Mem → Prop} (h : (μ 44 3 ≤ v2 → z_ri m_X1_unpack 39 [some (2, 44), some (0, v1), some (0, 0)] μ (d + 1) K) ∧ (v2 < μ 44 3 → ((0 : Int) ≤ v2 ∧ v2 < 22) ∧ (z_I (v2 + 1) ∧ (z_ri m_X1_unpack 16 [some (2, 44), some (0, v1), some (0, v2 + 1)] (z_st μ 45 v2 (-1)) (d + 1) K)))) : z_ri m_X1_unpack 16 [some (2, 44), some (0, v1), some (0, v2)] μ (d + 1) K := by
  show z_R m_X1_unpack 16 [some (2, 44), some (0, v1), some (0, v2)] [] z_n μ (d + 1) _
  refine z_iload_n dX1_unpack_16 rfl ?_
  refine z_aload_n dX1_unpack_17 rfl ?_
  refine n_getf (ji := 3) (t := 0) dX1_unpack_18 zf_X1_23 k_44 rfl (by decide) rfl ?_
  refine z_icmp_ge (tgt := 37) dX1_unpack_21 (by decide) (fun q1 => ?_) (fun q2 => ?_)
  · refine z_iconst dX1_unpack_37 ⟨by decide, by decide⟩ ?_
    refine n_istore_n (lo' := [some (2, 44), some (0, v1), some (0, 0)]) dX1_unpack_38 ⟨Nat.le_of_ble_eq_true rfl, Nat.le_of_ble_eq_true rfl⟩ rfl ?_
    refine z_drop [some (2, 44), some (0, v1), some (0, 0)] ⟨rfl, rfl, rfl, trivial⟩ ?_
    exact (h.1 q1)
  · refine z_aload_n dX1_unpack_24 rfl ?_
    refine n_getp (ji := 2) dX1_unpack_25 zf_X1_19 k_44 rfl (by decide) rfl p_44_2 ?_
    refine z_iload_n dX1_unpack_28 rfl ?_
    refine z_iconst dX1_unpack_29 ⟨by decide, by decide⟩ ?_
    refine n_iast dX1_unpack_30 k_45 (h.2 q2).1 ?_
    refine n_iinc (lo' := [some (2, 44), some (0, v1), some (0, v2 + 1)]) dX1_unpack_31 rfl (by decide) (h.2 q2).2.1 rfl ?_
    refine z_goto (tgt := 16) dX1_unpack_34 (by decide) ?_
    refine z_drop [some (2, 44), some (0, v1), some (0, v2 + 1)] ⟨rfl, rfl, rfl, trivial⟩ ?_
    exact (h.2 q2).2.2
set_option maxRecDepth 20000 in
theorem V_X1_unpack_39 {v1 v2 : Int}  {μ : z_Mem} {d : Nat} {K : Int → z_Mem → Prop} (h : (μ 44 3 ≤ v2 → K 1 μ) ∧ (v2 < μ 44 3 → ((0 : Int) ≤ v1 ∧ v1 < 64) ∧ (((0 : Int) ≤ v2 ∧ v2 < 32) ∧ (((0 : Int) ≤ μ 46 v1) ∧ ((¬ ((μ 46 v1) / 2 ^ (v2 : Int).toNat) % 2 = 0 → z_I (v2 + 1) ∧ (z_ri m_X1_unpack 39 [some (2, 44), some (0, v1), some (0, v2 + 1)] μ (d + 1) K)) ∧ (((μ 46 v1) / 2 ^ (v2 : Int).toNat) % 2 = 0 → ((0 : Int) ≤ v1 ∧ v1 < 64) ∧ (z_cn m_X1_glueWithLastOpen [(2, 44), (0, μ 46 v1), (0, v2)] μ d (fun m5 => z_I (v2 + 1) ∧ (z_ri m_X1_unpack 39 [some (2, 44), some (0, v1), some (0, v2 + 1)] m5 (d + 1) K))))))))) : z_ri m_X1_unpack 39 [some (2, 44), some (0, v1), some (0, v2)] μ (d + 1) K := by
  show z_R m_X1_unpack 39 [some (2, 44), some (0, v1), some (0, v2)] [] z_n μ (d + 1) _
  refine z_iload_n dX1_unpack_39 rfl ?_
  refine z_aload_n dX1_unpack_40 rfl ?_
  refine n_getf (ji := 3) (t := 0) dX1_unpack_41 zf_X1_23 k_44 rfl (by decide) rfl ?_
  refine z_icmp_ge (tgt := 77) dX1_unpack_44 (by decide) (fun q1 => ?_) (fun q2 => ?_)
  · refine z_iconst dX1_unpack_77 ⟨by decide, by decide⟩ ?_
    exact z_zreturn dX1_unpack_78 rfl rfl (by decide) ⟨_, rfl, (h.1 q1)⟩
  · refine z_aload_n dX1_unpack_47 rfl ?_
    refine n_getp (ji := 4) dX1_unpack_48 zf_X1_26 k_44 rfl (by decide) rfl p_44_4 ?_
    refine z_iload_n dX1_unpack_51 rfl ?_
    refine n_iald dX1_unpack_52 k_46 (h.2 q2).1 ?_
    refine z_iload_n dX1_unpack_53 rfl ?_
    refine n_iushr dX1_unpack_54 (h.2 q2).2.1 (h.2 q2).2.2.1 ?_
    refine z_iconst dX1_unpack_55 ⟨by decide, by decide⟩ ?_
    refine n_iandm (k := 1) (m := 2) dX1_unpack_56 (by decide) (by decide) ?_
    refine z_if_ne (tgt := 71) dX1_unpack_57 (by decide) (fun q3 => ?_) (fun q4 => ?_)
    · refine n_iinc (lo' := [some (2, 44), some (0, v1), some (0, v2 + 1)]) dX1_unpack_71 rfl (by decide) ((h.2 q2).2.2.2.1 q3).1 rfl ?_
      refine z_goto (tgt := 39) dX1_unpack_74 (by decide) ?_
      refine z_drop [some (2, 44), some (0, v1), some (0, v2 + 1)] ⟨rfl, rfl, rfl, trivial⟩ ?_
      exact ((h.2 q2).2.2.2.1 q3).2
    · refine z_aload_n dX1_unpack_60 rfl ?_
      refine z_aload_n dX1_unpack_61 rfl ?_
      refine n_getp (ji := 4) dX1_unpack_62 zf_X1_26 k_44 rfl (by decide) rfl p_44_4 ?_
      refine z_iload_n dX1_unpack_65 rfl ?_
      refine n_iald dX1_unpack_66 k_46 ((h.2 q2).2.2.2.2 q4).1 ?_
      refine z_iload_n dX1_unpack_67 rfl ?_
      refine n_vN (as := [(0, μ 46 v1), (0, v2)]) (rest := []) dX1_unpack_68 zm_X1_glueWithLastOpen zs_X1_91 k_44 (by decide) rfl rfl (Nat.le_of_ble_eq_true rfl) (Nat.le_of_ble_eq_true rfl) ((h.2 q2).2.2.2.2 q4).2 (fun m5 h6 => ?_)
      refine n_iinc (lo' := [some (2, 44), some (0, v1), some (0, v2 + 1)]) dX1_unpack_71 rfl (by decide) h6.1 rfl ?_
      refine z_goto (tgt := 39) dX1_unpack_74 (by decide) ?_
      refine z_drop [some (2, 44), some (0, v1), some (0, v2 + 1)] ⟨rfl, rfl, rfl, trivial⟩ ?_
      exact h6.2
set_option maxRecDepth 20000 in
theorem V_X1_glueWithLastOpen {a b : Int}  {μ : z_Mem} {d : Nat} {K : z_Mem → Prop} (h : z_I (b - 1) ∧ (z_rn m_X1_glueWithLastOpen 4 [some (2, 44), some (0, a), some (0, b), some (0, b - 1)] μ d K)) : z_cn m_X1_glueWithLastOpen [(2, 44), (0, a), (0, b)] μ d K := by
  show z_R m_X1_glueWithLastOpen 0 [some (2, 44), some (0, a), some (0, b), none] [] z_n μ d _
  refine z_iload_n dX1_glueWithLastOpen_0 rfl ?_
  refine z_iconst dX1_glueWithLastOpen_1 ⟨by decide, by decide⟩ ?_
  refine z_isub dX1_glueWithLastOpen_2 h.1 ?_
  refine n_istore_n (lo' := [some (2, 44), some (0, a), some (0, b), some (0, b - 1)]) dX1_glueWithLastOpen_3 ⟨Nat.le_of_ble_eq_true rfl, Nat.le_of_ble_eq_true rfl⟩ rfl ?_
  refine z_drop [some (2, 44), some (0, a), some (0, b), some (0, b - 1)] ⟨rfl, rfl, rfl, rfl, trivial⟩ ?_
  exact h.2
set_option maxRecDepth 20000 in
theorem V_X1_glueWithLastOpen_4 {v1 v2 v3 : Int}  {μ : z_Mem} {d : Nat} {K : z_Mem → Prop} (h : (v3 < 0 → K μ) ∧ (0 ≤ v3 → ((0 : Int) ≤ v3 ∧ v3 < 22) ∧ ((¬ μ 45 v3 = (-1) → z_I (v3 + (-1)) ∧ (z_rn m_X1_glueWithLastOpen 4 [some (2, 44), some (0, v1), some (0, v2), some (0, v3 + (-1))] μ d K)) ∧ (μ 45 v3 = (-1) → ((0 : Int) ≤ v3 ∧ v3 < 32) ∧ (((0 : Int) ≤ v1) ∧ (((v1 / 2 ^ (v3 : Int).toNat) % 2 = 0 → z_I (v3 + (-1)) ∧ (z_rn m_X1_glueWithLastOpen 4 [some (2, 44), some (0, v1), some (0, v2), some (0, v3 + (-1))] μ d K)) ∧ (¬ (v1 / 2 ^ (v3 : Int).toNat) % 2 = 0 → ((0 : Int) ≤ v2 ∧ v2 < 22) ∧ (((0 : Int) ≤ v3 ∧ v3 < 22) ∧ (K (z_st (z_st μ 45 v2 v3) 45 v3 v2)))))))))) : z_rn m_X1_glueWithLastOpen 4 [some (2, 44), some (0, v1), some (0, v2), some (0, v3)] μ d K := by
  show z_R m_X1_glueWithLastOpen 4 [some (2, 44), some (0, v1), some (0, v2), some (0, v3)] [] z_n μ d _
  refine z_iload_n dX1_glueWithLastOpen_4 rfl ?_
  refine z_if_lt (tgt := 47) dX1_glueWithLastOpen_5 (by decide) (fun q1 => ?_) (fun q2 => ?_)
  · exact z_return dX1_glueWithLastOpen_47 rfl rfl ⟨rfl, (h.1 q1)⟩
  · refine z_aload_n dX1_glueWithLastOpen_8 rfl ?_
    refine n_getp (ji := 2) dX1_glueWithLastOpen_9 zf_X1_19 k_44 rfl (by decide) rfl p_44_2 ?_
    refine z_iload_n dX1_glueWithLastOpen_12 rfl ?_
    refine n_iald dX1_glueWithLastOpen_13 k_45 (h.2 q2).1 ?_
    refine z_iconst dX1_glueWithLastOpen_14 ⟨by decide, by decide⟩ ?_
    refine z_icmp_ne (tgt := 41) dX1_glueWithLastOpen_15 (by decide) (fun q3 => ?_) (fun q4 => ?_)
    · refine n_iinc (lo' := [some (2, 44), some (0, v1), some (0, v2), some (0, v3 + (-1))]) dX1_glueWithLastOpen_41 rfl (by decide) ((h.2 q2).2.1 q3).1 rfl ?_
      refine z_goto (tgt := 4) dX1_glueWithLastOpen_44 (by decide) ?_
      refine z_drop [some (2, 44), some (0, v1), some (0, v2), some (0, v3 + (-1))] ⟨rfl, rfl, rfl, rfl, trivial⟩ ?_
      exact ((h.2 q2).2.1 q3).2
    · refine z_iload_n dX1_glueWithLastOpen_18 rfl ?_
      refine z_iload_n dX1_glueWithLastOpen_19 rfl ?_
      refine n_iushr dX1_glueWithLastOpen_20 ((h.2 q2).2.2 q4).1 ((h.2 q2).2.2 q4).2.1 ?_
      refine z_iconst dX1_glueWithLastOpen_21 ⟨by decide, by decide⟩ ?_
      refine n_iandm (k := 1) (m := 2) dX1_glueWithLastOpen_22 (by decide) (by decide) ?_
      refine z_if_eq (tgt := 41) dX1_glueWithLastOpen_23 (by decide) (fun q5 => ?_) (fun q6 => ?_)
      · refine n_iinc (lo' := [some (2, 44), some (0, v1), some (0, v2), some (0, v3 + (-1))]) dX1_glueWithLastOpen_41 rfl (by decide) (((h.2 q2).2.2 q4).2.2.1 q5).1 rfl ?_
        refine z_goto (tgt := 4) dX1_glueWithLastOpen_44 (by decide) ?_
        refine z_drop [some (2, 44), some (0, v1), some (0, v2), some (0, v3 + (-1))] ⟨rfl, rfl, rfl, rfl, trivial⟩ ?_
        exact (((h.2 q2).2.2 q4).2.2.1 q5).2
      · refine z_aload_n dX1_glueWithLastOpen_26 rfl ?_
        refine n_getp (ji := 2) dX1_glueWithLastOpen_27 zf_X1_19 k_44 rfl (by decide) rfl p_44_2 ?_
        refine z_iload_n dX1_glueWithLastOpen_30 rfl ?_
        refine z_iload_n dX1_glueWithLastOpen_31 rfl ?_
        refine n_iast dX1_glueWithLastOpen_32 k_45 (((h.2 q2).2.2 q4).2.2.2 q6).1 ?_
        refine z_aload_n dX1_glueWithLastOpen_33 rfl ?_
        refine n_getp (ji := 2) dX1_glueWithLastOpen_34 zf_X1_19 k_44 rfl (by decide) rfl p_44_2 ?_
        refine z_iload_n dX1_glueWithLastOpen_37 rfl ?_
        refine z_iload_n dX1_glueWithLastOpen_38 rfl ?_
        refine n_iast dX1_glueWithLastOpen_39 k_45 (((h.2 q2).2.2 q4).2.2.2 q6).2.1 ?_
        exact z_return dX1_glueWithLastOpen_40 rfl rfl ⟨rfl, (((h.2 q2).2.2 q4).2.2.2 q6).2.2⟩
set_option maxRecDepth 20000 in
theorem V_X1_measure {a : Int}  {μ : z_Mem} {d : Nat} {K : Int → z_Mem → Prop} (h : z_ri m_X1_measure 2 [some (2, 44), some (2, 39), some (0, a), some (0, 0), none, none, none] μ (d + 1) K) : z_ci m_X1_measure [(2, 44), (2, 39), (0, a)] μ (d + 1) K := by
  show z_R m_X1_measure 0 [some (2, 44), some (2, 39), some (0, a), none, none, none, none] [] z_n μ (d + 1) _
  refine z_iconst dX1_measure_0 ⟨by decide, by decide⟩ ?_
  refine n_istore_n (lo' := [some (2, 44), some (2, 39), some (0, a), some (0, 0), none, none, none]) dX1_measure_1 ⟨Nat.le_of_ble_eq_true rfl, Nat.le_of_ble_eq_true rfl⟩ rfl ?_
  refine z_drop [some (2, 44), some (2, 39), some (0, a), some (0, 0), none, none, none] ⟨rfl, rfl, rfl, rfl, trivial⟩ ?_
  exact h
set_option maxRecDepth 20000 in
theorem V_X1_measure_2 {v2 v3 : Int}  {μ : z_Mem} {d : Nat} {K : Int → z_Mem → Prop} (h : (μ 44 3 ≤ v3 → z_ri m_X1_measure 41 [some (2, 44), none, some (0, v2), some (0, 0), none, none, none] μ (d + 1) K) ∧ (v3 < μ 44 3 → ((0 : Int) ≤ v3 ∧ v3 < 22) ∧ (((0 : Int) ≤ v3 ∧ v3 < 62) ∧ (((0 : Int) ≤ v3 ∧ v3 < 22) ∧ (z_I (v3 + 1) ∧ (z_ri m_X1_measure 2 [some (2, 44), some (2, 39), some (0, v2), some (0, v3 + 1), none, none, none] (z_st (z_st μ 50 v3 v3) 63 v3 ((z_st μ 50 v3 v3) 41 v3)) (d + 1) K)))))) : z_ri m_X1_measure 2 [some (2, 44), some (2, 39), some (0, v2), some (0, v3), none, none, none] μ (d + 1) K := by
  show z_R m_X1_measure 2 [some (2, 44), some (2, 39), some (0, v2), some (0, v3), none, none, none] [] z_n μ (d + 1) _
  refine z_iload_n dX1_measure_2 rfl ?_
  refine z_aload_n dX1_measure_3 rfl ?_
  refine n_getf (ji := 3) (t := 0) dX1_measure_4 zf_X1_23 k_44 rfl (by decide) rfl ?_
  refine z_icmp_ge (tgt := 39) dX1_measure_7 (by decide) (fun q1 => ?_) (fun q2 => ?_)
  · refine z_iconst dX1_measure_39 ⟨by decide, by decide⟩ ?_
    refine n_istore_n (lo' := [some (2, 44), some (2, 39), some (0, v2), some (0, 0), none, none, none]) dX1_measure_40 ⟨Nat.le_of_ble_eq_true rfl, Nat.le_of_ble_eq_true rfl⟩ rfl ?_
    refine z_drop [some (2, 44), none, some (0, v2), some (0, 0), none, none, none] ⟨rfl, rfl, rfl, trivial⟩ ?_
    exact (h.1 q1)
  · refine z_aload_n dX1_measure_10 rfl ?_
    refine n_getp (ji := 7) dX1_measure_11 zf_X1_37 k_44 rfl (by decide) rfl p_44_7 ?_
    refine z_iconst dX1_measure_14 ⟨by decide, by decide⟩ ?_
    refine n_aaldI dX1_measure_15 k_49 (by decide) p_49_0 ?_
    refine z_iload_n dX1_measure_16 rfl ?_
    refine z_iload_n dX1_measure_17 rfl ?_
    refine n_iast dX1_measure_18 k_50 (h.2 q2).1 ?_
    refine z_aload_n dX1_measure_19 rfl ?_
    refine n_getp (ji := 8) dX1_measure_20 zf_X1_40 k_44 rfl (by decide) rfl p_44_8 ?_
    refine z_iconst dX1_measure_23 ⟨by decide, by decide⟩ ?_
    refine n_aaldI dX1_measure_24 k_62 (by decide) p_62_0 ?_
    refine z_iload_n dX1_measure_25 rfl ?_
    refine z_aload_n dX1_measure_26 rfl ?_
    refine n_getp (ji := 3) dX1_measure_27 zf_X1_71 k_39 rfl (by decide) rfl p_39_3 ?_
    refine z_iload_n dX1_measure_30 rfl ?_
    refine n_iald dX1_measure_31 k_41 (h.2 q2).2.1 ?_
    refine n_iast dX1_measure_32 k_63 (h.2 q2).2.2.1 ?_
    refine n_iinc (lo' := [some (2, 44), some (2, 39), some (0, v2), some (0, v3 + 1), none, none, none]) dX1_measure_33 rfl (by decide) (h.2 q2).2.2.2.1 rfl ?_
    refine z_goto (tgt := 2) dX1_measure_36 (by decide) ?_
    refine z_drop [some (2, 44), some (2, 39), some (0, v2), some (0, v3 + 1), none, none, none] ⟨rfl, rfl, rfl, rfl, trivial⟩ ?_
    exact (h.2 q2).2.2.2.2
set_option maxRecDepth 20000 in
theorem V_X1_measure_41 {v2 v3 : Int}  {μ : z_Mem} {d : Nat} {K : Int → z_Mem → Prop} (h : (μ 44 3 ≤ v3 → z_ri m_X1_measure 89 [some (2, 44), none, some (0, v2), some (0, 0), some (0, 0), some (0, 4), some (0, 0)] μ (d + 1) K) ∧ (v3 < μ 44 3 → ((0 : Int) ≤ v3 ∧ v3 < 22) ∧ ((μ 45 v3 ≤ v3 → z_I (v3 + 1) ∧ (z_ri m_X1_measure 41 [some (2, 44), none, some (0, v2), some (0, v3 + 1), none, none, none] μ (d + 1) K)) ∧ (v3 < μ 45 v3 → ((0 : Int) ≤ v3 ∧ v3 < 22) ∧ (z_ci m_X1_glueTwo [(2, 44), (0, 0), (0, v3), (0, μ 45 v3)] μ d (fun x7 m5 => z_I (v3 + 1) ∧ (z_ri m_X1_measure 41 [some (2, 44), none, some (0, v2), some (0, v3 + 1), none, none, none] m5 (d + 1) K))))))) : z_ri m_X1_measure 41 [some (2, 44), none, some (0, v2), some (0, v3), none, none, none] μ (d + 1) K := by
  show z_R m_X1_measure 41 [some (2, 44), none, some (0, v2), some (0, v3), none, none, none] [] z_n μ (d + 1) _
  refine z_iload_n dX1_measure_41 rfl ?_
  refine z_aload_n dX1_measure_42 rfl ?_
  refine n_getf (ji := 3) (t := 0) dX1_measure_43 zf_X1_23 k_44 rfl (by decide) rfl ?_
  refine z_icmp_ge (tgt := 78) dX1_measure_46 (by decide) (fun q1 => ?_) (fun q2 => ?_)
  · refine z_iconst dX1_measure_78 ⟨by decide, by decide⟩ ?_
    refine n_istore_n (lo' := [some (2, 44), none, some (0, v2), some (0, 0), none, none, none]) dX1_measure_79 ⟨Nat.le_of_ble_eq_true rfl, Nat.le_of_ble_eq_true rfl⟩ rfl ?_
    refine z_iconst dX1_measure_80 ⟨by decide, by decide⟩ ?_
    refine n_istore (lo' := [some (2, 44), none, some (0, v2), some (0, 0), some (0, 0), none, none]) dX1_measure_81 ⟨Nat.le_of_ble_eq_true rfl, Nat.le_of_ble_eq_true rfl⟩ rfl ?_
    refine z_iconst dX1_measure_83 ⟨by decide, by decide⟩ ?_
    refine n_istore (lo' := [some (2, 44), none, some (0, v2), some (0, 0), some (0, 0), some (0, 4), none]) dX1_measure_84 ⟨Nat.le_of_ble_eq_true rfl, Nat.le_of_ble_eq_true rfl⟩ rfl ?_
    refine z_iconst dX1_measure_86 ⟨by decide, by decide⟩ ?_
    refine n_istore (lo' := [some (2, 44), none, some (0, v2), some (0, 0), some (0, 0), some (0, 4), some (0, 0)]) dX1_measure_87 ⟨Nat.le_of_ble_eq_true rfl, Nat.le_of_ble_eq_true rfl⟩ rfl ?_
    refine z_drop [some (2, 44), none, some (0, v2), some (0, 0), some (0, 0), some (0, 4), some (0, 0)] ⟨rfl, rfl, rfl, rfl, rfl, rfl, trivial⟩ ?_
    exact (h.1 q1)
  · refine z_aload_n dX1_measure_49 rfl ?_
    refine n_getp (ji := 2) dX1_measure_50 zf_X1_19 k_44 rfl (by decide) rfl p_44_2 ?_
    refine z_iload_n dX1_measure_53 rfl ?_
    refine n_iald dX1_measure_54 k_45 (h.2 q2).1 ?_
    refine z_iload_n dX1_measure_55 rfl ?_
    refine z_icmp_le (tgt := 72) dX1_measure_56 (by decide) (fun q3 => ?_) (fun q4 => ?_)
    · refine n_iinc (lo' := [some (2, 44), none, some (0, v2), some (0, v3 + 1), none, none, none]) dX1_measure_72 rfl (by decide) ((h.2 q2).2.1 q3).1 rfl ?_
      refine z_goto (tgt := 41) dX1_measure_75 (by decide) ?_
      refine z_drop [some (2, 44), none, some (0, v2), some (0, v3 + 1), none, none, none] ⟨rfl, rfl, rfl, trivial⟩ ?_
      exact ((h.2 q2).2.1 q3).2
    · refine z_aload_n dX1_measure_59 rfl ?_
      refine z_iconst dX1_measure_60 ⟨by decide, by decide⟩ ?_
      refine z_iload_n dX1_measure_61 rfl ?_
      refine z_aload_n dX1_measure_62 rfl ?_
      refine n_getp (ji := 2) dX1_measure_63 zf_X1_19 k_44 rfl (by decide) rfl p_44_2 ?_
      refine z_iload_n dX1_measure_66 rfl ?_
      refine n_iald dX1_measure_67 k_45 ((h.2 q2).2.2 q4).1 ?_
      refine n_vI (as := [(0, 0), (0, v3), (0, μ 45 v3)]) (rest := []) dX1_measure_68 zm_X1_glueTwo zs_X1_80 k_44 (by decide) rfl rfl (Nat.le_of_ble_eq_true rfl) (Nat.le_of_ble_eq_true rfl) ((h.2 q2).2.2 q4).2 (fun x7 m5 h6 => ?_)
      refine z_pop dX1_measure_71 rfl ?_
      refine n_iinc (lo' := [some (2, 44), none, some (0, v2), some (0, v3 + 1), none, none, none]) dX1_measure_72 rfl (by decide) h6.1 rfl ?_
      refine z_goto (tgt := 41) dX1_measure_75 (by decide) ?_
      refine z_drop [some (2, 44), none, some (0, v2), some (0, v3 + 1), none, none, none] ⟨rfl, rfl, rfl, trivial⟩ ?_
      exact h6.2
set_option maxRecDepth 20000 in
theorem V_X1_measure_89 {v2 v3 v4 v5 v6 : Int}  {μ : z_Mem} {d : Nat} {K : Int → z_Mem → Prop} (h : (μ 44 3 ≤ v6 → (¬ v2 = 0 → (¬ v2 = 1 → K v5 μ) ∧ (v2 = 1 → K v4 μ)) ∧ (v2 = 0 → K v3 μ)) ∧ (v6 < μ 44 3 → ((0 : Int) ≤ v6 ∧ v6 < 22) ∧ ((¬ μ 50 v6 = v6 → z_I (v6 + 1) ∧ (z_ri m_X1_measure 89 [some (2, 44), none, some (0, v2), some (0, v3), some (0, v4), some (0, v5), some (0, v6 + 1)] μ (d + 1) K)) ∧ (μ 50 v6 = v6 → z_I (v3 + 1) ∧ (((0 : Int) ≤ v6 ∧ v6 < 22) ∧ ((4 ≤ μ 63 v6 → z_I (v4 + 0) ∧ (((0 : Int) ≤ v6 ∧ v6 < 22) ∧ (z_I (v6 + 1) ∧ (z_ri m_X1_measure 89 [some (2, 44), none, some (0, v2), some (0, v3 + 1), some (0, v4 + 0), some (0, min v5 (μ 63 v6)), some (0, v6 + 1)] μ (d + 1) K)))) ∧ (μ 63 v6 < 4 → z_I (v4 + 1) ∧ (((0 : Int) ≤ v6 ∧ v6 < 22) ∧ (z_I (v6 + 1) ∧ (z_ri m_X1_measure 89 [some (2, 44), none, some (0, v2), some (0, v3 + 1), some (0, v4 + 1), some (0, min v5 (μ 63 v6)), some (0, v6 + 1)] μ (d + 1) K)))))))))) : z_ri m_X1_measure 89 [some (2, 44), none, some (0, v2), some (0, v3), some (0, v4), some (0, v5), some (0, v6)] μ (d + 1) K := by
  show z_R m_X1_measure 89 [some (2, 44), none, some (0, v2), some (0, v3), some (0, v4), some (0, v5), some (0, v6)] [] z_n μ (d + 1) _
  refine z_iload dX1_measure_89 rfl ?_
  refine z_aload_n dX1_measure_91 rfl ?_
  refine n_getf (ji := 3) (t := 0) dX1_measure_92 zf_X1_23 k_44 rfl (by decide) rfl ?_
  refine z_icmp_ge (tgt := 160) dX1_measure_95 (by decide) (fun q1 => ?_) (fun q2 => ?_)
  · refine z_iload_n dX1_measure_160 rfl ?_
    refine z_if_ne (tgt := 166) dX1_measure_161 (by decide) (fun q3 => ?_) (fun q4 => ?_)
    · refine z_iload_n dX1_measure_166 rfl ?_
      refine z_iconst dX1_measure_167 ⟨by decide, by decide⟩ ?_
      refine z_icmp_ne (tgt := 176) dX1_measure_168 (by decide) (fun q5 => ?_) (fun q6 => ?_)
      · refine z_iload dX1_measure_176 rfl ?_
        exact z_ireturn dX1_measure_178 rfl rfl ⟨_, rfl, (((h.1 q1).1 q3).1 q5)⟩
      · refine z_iload dX1_measure_171 rfl ?_
        refine z_goto (tgt := 178) dX1_measure_173 (by decide) ?_
        exact z_ireturn dX1_measure_178 rfl rfl ⟨_, rfl, (((h.1 q1).1 q3).2 q6)⟩
    · refine z_iload_n dX1_measure_164 rfl ?_
      exact z_ireturn dX1_measure_165 rfl rfl ⟨_, rfl, ((h.1 q1).2 q4)⟩
  · refine z_aload_n dX1_measure_98 rfl ?_
    refine n_getp (ji := 7) dX1_measure_99 zf_X1_37 k_44 rfl (by decide) rfl p_44_7 ?_
    refine z_iconst dX1_measure_102 ⟨by decide, by decide⟩ ?_
    refine n_aaldI dX1_measure_103 k_49 (by decide) p_49_0 ?_
    refine z_iload dX1_measure_104 rfl ?_
    refine n_iald dX1_measure_106 k_50 (h.2 q2).1 ?_
    refine z_iload dX1_measure_107 rfl ?_
    refine z_icmp_ne (tgt := 154) dX1_measure_109 (by decide) (fun q7 => ?_) (fun q8 => ?_)
    · refine n_iinc (lo' := [some (2, 44), none, some (0, v2), some (0, v3), some (0, v4), some (0, v5), some (0, v6 + 1)]) dX1_measure_154 rfl (by decide) ((h.2 q2).2.1 q7).1 rfl ?_
      refine z_goto (tgt := 89) dX1_measure_157 (by decide) ?_
      refine z_drop [some (2, 44), none, some (0, v2), some (0, v3), some (0, v4), some (0, v5), some (0, v6 + 1)] ⟨rfl, rfl, rfl, rfl, rfl, rfl, trivial⟩ ?_
      exact ((h.2 q2).2.1 q7).2
    · refine n_iinc (lo' := [some (2, 44), none, some (0, v2), some (0, v3 + 1), some (0, v4), some (0, v5), some (0, v6)]) dX1_measure_112 rfl (by decide) ((h.2 q2).2.2 q8).1 rfl ?_
      refine z_iload dX1_measure_115 rfl ?_
      refine z_aload_n dX1_measure_117 rfl ?_
      refine n_getp (ji := 8) dX1_measure_118 zf_X1_40 k_44 rfl (by decide) rfl p_44_8 ?_
      refine z_iconst dX1_measure_121 ⟨by decide, by decide⟩ ?_
      refine n_aaldI dX1_measure_122 k_62 (by decide) p_62_0 ?_
      refine z_iload dX1_measure_123 rfl ?_
      refine n_iald dX1_measure_125 k_63 ((h.2 q2).2.2 q8).2.1 ?_
      refine z_iconst dX1_measure_126 ⟨by decide, by decide⟩ ?_
      refine z_icmp_ge (tgt := 134) dX1_measure_127 (by decide) (fun q9 => ?_) (fun q10 => ?_)
      · refine z_iconst dX1_measure_134 ⟨by decide, by decide⟩ ?_
        refine z_iadd dX1_measure_135 (((h.2 q2).2.2 q8).2.2.1 q9).1 ?_
        refine n_istore (lo' := [some (2, 44), none, some (0, v2), some (0, v3 + 1), some (0, v4 + 0), some (0, v5), some (0, v6)]) dX1_measure_136 ⟨Nat.le_of_ble_eq_true rfl, Nat.le_of_ble_eq_true rfl⟩ rfl ?_
        refine z_iload dX1_measure_138 rfl ?_
        refine z_aload_n dX1_measure_140 rfl ?_
        refine n_getp (ji := 8) dX1_measure_141 zf_X1_40 k_44 rfl (by decide) rfl p_44_8 ?_
        refine z_iconst dX1_measure_144 ⟨by decide, by decide⟩ ?_
        refine n_aaldI dX1_measure_145 k_62 (by decide) p_62_0 ?_
        refine z_iload dX1_measure_146 rfl ?_
        refine n_iald dX1_measure_148 k_63 (((h.2 q2).2.2 q8).2.2.1 q9).2.1 ?_
        refine z_mmin dX1_measure_149 zq_1100 zq_592 zq_133 zq_593 (Nat.le_of_ble_eq_true rfl) ?_
        refine n_istore (lo' := [some (2, 44), none, some (0, v2), some (0, v3 + 1), some (0, v4 + 0), some (0, min v5 (μ 63 v6)), some (0, v6)]) dX1_measure_152 ⟨Nat.le_of_ble_eq_true rfl, Nat.le_of_ble_eq_true rfl⟩ rfl ?_
        refine n_iinc (lo' := [some (2, 44), none, some (0, v2), some (0, v3 + 1), some (0, v4 + 0), some (0, min v5 (μ 63 v6)), some (0, v6 + 1)]) dX1_measure_154 rfl (by decide) (((h.2 q2).2.2 q8).2.2.1 q9).2.2.1 rfl ?_
        refine z_goto (tgt := 89) dX1_measure_157 (by decide) ?_
        refine z_drop [some (2, 44), none, some (0, v2), some (0, v3 + 1), some (0, v4 + 0), some (0, min v5 (μ 63 v6)), some (0, v6 + 1)] ⟨rfl, rfl, rfl, rfl, rfl, rfl, trivial⟩ ?_
        exact (((h.2 q2).2.2 q8).2.2.1 q9).2.2.2
      · refine z_iconst dX1_measure_130 ⟨by decide, by decide⟩ ?_
        refine z_goto (tgt := 135) dX1_measure_131 (by decide) ?_
        refine z_iadd dX1_measure_135 (((h.2 q2).2.2 q8).2.2.2 q10).1 ?_
        refine n_istore (lo' := [some (2, 44), none, some (0, v2), some (0, v3 + 1), some (0, v4 + 1), some (0, v5), some (0, v6)]) dX1_measure_136 ⟨Nat.le_of_ble_eq_true rfl, Nat.le_of_ble_eq_true rfl⟩ rfl ?_
        refine z_iload dX1_measure_138 rfl ?_
        refine z_aload_n dX1_measure_140 rfl ?_
        refine n_getp (ji := 8) dX1_measure_141 zf_X1_40 k_44 rfl (by decide) rfl p_44_8 ?_
        refine z_iconst dX1_measure_144 ⟨by decide, by decide⟩ ?_
        refine n_aaldI dX1_measure_145 k_62 (by decide) p_62_0 ?_
        refine z_iload dX1_measure_146 rfl ?_
        refine n_iald dX1_measure_148 k_63 (((h.2 q2).2.2 q8).2.2.2 q10).2.1 ?_
        refine z_mmin dX1_measure_149 zq_1100 zq_592 zq_133 zq_593 (Nat.le_of_ble_eq_true rfl) ?_
        refine n_istore (lo' := [some (2, 44), none, some (0, v2), some (0, v3 + 1), some (0, v4 + 1), some (0, min v5 (μ 63 v6)), some (0, v6)]) dX1_measure_152 ⟨Nat.le_of_ble_eq_true rfl, Nat.le_of_ble_eq_true rfl⟩ rfl ?_
        refine n_iinc (lo' := [some (2, 44), none, some (0, v2), some (0, v3 + 1), some (0, v4 + 1), some (0, min v5 (μ 63 v6)), some (0, v6 + 1)]) dX1_measure_154 rfl (by decide) (((h.2 q2).2.2 q8).2.2.2 q10).2.2.1 rfl ?_
        refine z_goto (tgt := 89) dX1_measure_157 (by decide) ?_
        refine z_drop [some (2, 44), none, some (0, v2), some (0, v3 + 1), some (0, v4 + 1), some (0, min v5 (μ 63 v6)), some (0, v6 + 1)] ⟨rfl, rfl, rfl, rfl, rfl, rfl, trivial⟩ ?_
        exact (((h.2 q2).2.2 q8).2.2.2 q10).2.2.2
set_option maxRecDepth 20000 in
theorem V_X1_numberOf  {μ : z_Mem} {d : Nat} {K : Int → z_Mem → Prop} (h : z_ci m_X1_wordOf [(2, 44), (2, 42)] μ d (fun x3 m1 => z_ri m_X1_numberOf 11 [some (2, 44), some (2, 39), some (0, x3), some (0, 0)] m1 (d + 1) K)) : z_ci m_X1_numberOf [(2, 44), (2, 39)] μ (d + 1) K := by
  show z_R m_X1_numberOf 0 [some (2, 44), some (2, 39), none, none] [] z_n μ (d + 1) _
  refine z_aload_n dX1_numberOf_0 rfl ?_
  refine z_aload_n dX1_numberOf_1 rfl ?_
  refine n_getp (ji := 4) dX1_numberOf_2 zf_X1_95 k_39 rfl (by decide) rfl p_39_4 ?_
  refine n_vI (as := [(2, 42)]) (rest := []) dX1_numberOf_5 zm_X1_wordOf zs_X1_84 k_44 (by decide) rfl rfl (Nat.le_of_ble_eq_true rfl) (Nat.le_of_ble_eq_true rfl) h (fun x3 m1 h2 => ?_)
  refine n_istore_n (lo' := [some (2, 44), some (2, 39), some (0, x3), none]) dX1_numberOf_8 ⟨Nat.le_of_ble_eq_true rfl, Nat.le_of_ble_eq_true rfl⟩ rfl ?_
  refine z_iconst dX1_numberOf_9 ⟨by decide, by decide⟩ ?_
  refine n_istore_n (lo' := [some (2, 44), some (2, 39), some (0, x3), some (0, 0)]) dX1_numberOf_10 ⟨Nat.le_of_ble_eq_true rfl, Nat.le_of_ble_eq_true rfl⟩ rfl ?_
  refine z_drop [some (2, 44), some (2, 39), some (0, x3), some (0, 0)] ⟨rfl, rfl, rfl, rfl, trivial⟩ ?_
  exact h2
set_option maxRecDepth 20000 in
theorem V_X1_numberOf_11 {v2 v3 : Int}  {μ : z_Mem} {d : Nat} {K : Int → z_Mem → Prop} (h : (μ 44 1 ≤ v3 → K (-2) μ) ∧ (v3 < μ 44 1 → ((0 : Int) ≤ v3 ∧ v3 < 64) ∧ ((¬ μ 46 v3 = v2 → z_I (v3 + 1) ∧ (z_ri m_X1_numberOf 11 [some (2, 44), some (2, 39), some (0, v2), some (0, v3 + 1)] μ (d + 1) K)) ∧ (μ 46 v3 = v2 → z_ci m_X1_unpack [(2, 44), (0, v3)] μ d (fun x7 m5 => (x7 = 0 → z_I (v3 + 1) ∧ (z_ri m_X1_numberOf 11 [some (2, 44), some (2, 39), some (0, v2), some (0, v3 + 1)] m5 (d + 1) K)) ∧ (¬ x7 = 0 → z_ci m_X1_isGluedLike [(2, 44), (2, 42)] m5 d (fun x12 m10 => (x12 = 0 → z_I (v3 + 1) ∧ (z_ri m_X1_numberOf 11 [some (2, 44), some (2, 39), some (0, v2), some (0, v3 + 1)] m10 (d + 1) K)) ∧ (¬ x12 = 0 → K v3 m10)))))))) : z_ri m_X1_numberOf 11 [some (2, 44), some (2, 39), some (0, v2), some (0, v3)] μ (d + 1) K := by
  show z_R m_X1_numberOf 11 [some (2, 44), some (2, 39), some (0, v2), some (0, v3)] [] z_n μ (d + 1) _
  refine z_iload_n dX1_numberOf_11 rfl ?_
  refine z_aload_n dX1_numberOf_12 rfl ?_
  refine n_getf (ji := 1) (t := 0) dX1_numberOf_13 zf_X1_15 k_44 rfl (by decide) rfl ?_
  refine z_icmp_ge (tgt := 56) dX1_numberOf_16 (by decide) (fun q1 => ?_) (fun q2 => ?_)
  · refine z_bipush dX1_numberOf_56 (by decide) ?_
    exact z_ireturn dX1_numberOf_58 rfl rfl ⟨_, rfl, (h.1 q1)⟩
  · refine z_aload_n dX1_numberOf_19 rfl ?_
    refine n_getp (ji := 4) dX1_numberOf_20 zf_X1_26 k_44 rfl (by decide) rfl p_44_4 ?_
    refine z_iload_n dX1_numberOf_23 rfl ?_
    refine n_iald dX1_numberOf_24 k_46 (h.2 q2).1 ?_
    refine z_iload_n dX1_numberOf_25 rfl ?_
    refine z_icmp_ne (tgt := 50) dX1_numberOf_26 (by decide) (fun q3 => ?_) (fun q4 => ?_)
    · refine n_iinc (lo' := [some (2, 44), some (2, 39), some (0, v2), some (0, v3 + 1)]) dX1_numberOf_50 rfl (by decide) ((h.2 q2).2.1 q3).1 rfl ?_
      refine z_goto (tgt := 11) dX1_numberOf_53 (by decide) ?_
      refine z_drop [some (2, 44), some (2, 39), some (0, v2), some (0, v3 + 1)] ⟨rfl, rfl, rfl, rfl, trivial⟩ ?_
      exact ((h.2 q2).2.1 q3).2
    · refine z_aload_n dX1_numberOf_29 rfl ?_
      refine z_iload_n dX1_numberOf_30 rfl ?_
      refine n_vI (as := [(0, v3)]) (rest := []) dX1_numberOf_31 zm_X1_unpack zs_X1_98 k_44 (by decide) rfl rfl (Nat.le_of_ble_eq_true rfl) (Nat.le_of_ble_eq_true rfl) ((h.2 q2).2.2 q4) (fun x7 m5 h6 => ?_)
      refine z_if_eq (tgt := 50) dX1_numberOf_34 (by decide) (fun q8 => ?_) (fun q9 => ?_)
      · refine n_iinc (lo' := [some (2, 44), some (2, 39), some (0, v2), some (0, v3 + 1)]) dX1_numberOf_50 rfl (by decide) (h6.1 q8).1 rfl ?_
        refine z_goto (tgt := 11) dX1_numberOf_53 (by decide) ?_
        refine z_drop [some (2, 44), some (2, 39), some (0, v2), some (0, v3 + 1)] ⟨rfl, rfl, rfl, rfl, trivial⟩ ?_
        exact (h6.1 q8).2
      · refine z_aload_n dX1_numberOf_37 rfl ?_
        refine z_aload_n dX1_numberOf_38 rfl ?_
        refine n_getp (ji := 4) dX1_numberOf_39 zf_X1_95 k_39 rfl (by decide) rfl p_39_4 ?_
        refine n_vI (as := [(2, 42)]) (rest := []) dX1_numberOf_42 zm_X1_isGluedLike zs_X1_101 k_44 (by decide) rfl rfl (Nat.le_of_ble_eq_true rfl) (Nat.le_of_ble_eq_true rfl) (h6.2 q9) (fun x12 m10 h11 => ?_)
        refine z_if_eq (tgt := 50) dX1_numberOf_45 (by decide) (fun q13 => ?_) (fun q14 => ?_)
        · refine n_iinc (lo' := [some (2, 44), some (2, 39), some (0, v2), some (0, v3 + 1)]) dX1_numberOf_50 rfl (by decide) (h11.1 q13).1 rfl ?_
          refine z_goto (tgt := 11) dX1_numberOf_53 (by decide) ?_
          refine z_drop [some (2, 44), some (2, 39), some (0, v2), some (0, v3 + 1)] ⟨rfl, rfl, rfl, rfl, trivial⟩ ?_
          exact (h11.1 q13).2
        · refine z_iload_n dX1_numberOf_48 rfl ?_
          exact z_ireturn dX1_numberOf_49 rfl rfl ⟨_, rfl, (h11.2 q14)⟩
set_option maxRecDepth 20000 in
theorem V_X1_isGluedLike  {μ : z_Mem} {d : Nat} {K : Int → z_Mem → Prop} (h : z_ri m_X1_isGluedLike 2 [some (2, 44), some (2, 42), some (0, 0)] μ d K) : z_ci m_X1_isGluedLike [(2, 44), (2, 42)] μ d K := by
  show z_R m_X1_isGluedLike 0 [some (2, 44), some (2, 42), none] [] z_n μ d _
  refine z_iconst dX1_isGluedLike_0 ⟨by decide, by decide⟩ ?_
  refine n_istore_n (lo' := [some (2, 44), some (2, 42), some (0, 0)]) dX1_isGluedLike_1 ⟨Nat.le_of_ble_eq_true rfl, Nat.le_of_ble_eq_true rfl⟩ rfl ?_
  refine z_drop [some (2, 44), some (2, 42), some (0, 0)] ⟨rfl, rfl, rfl, trivial⟩ ?_
  exact h
set_option maxRecDepth 20000 in
theorem V_X1_isGluedLike_2 {v2 : Int}  {μ : z_Mem} {d : Nat} {K : Int → z_Mem → Prop} (h : (μ 44 3 ≤ v2 → K 1 μ) ∧ (v2 < μ 44 3 → ((0 : Int) ≤ v2 ∧ v2 < 22) ∧ (((0 : Int) ≤ v2 ∧ v2 < 62) ∧ ((μ 45 v2 = μ 42 v2 → z_I (v2 + 1) ∧ (z_ri m_X1_isGluedLike 2 [some (2, 44), some (2, 42), some (0, v2 + 1)] μ d K)) ∧ (¬ μ 45 v2 = μ 42 v2 → K 0 μ))))) : z_ri m_X1_isGluedLike 2 [some (2, 44), some (2, 42), some (0, v2)] μ d K := by
  show z_R m_X1_isGluedLike 2 [some (2, 44), some (2, 42), some (0, v2)] [] z_n μ d _
  refine z_iload_n dX1_isGluedLike_2 rfl ?_
  refine z_aload_n dX1_isGluedLike_3 rfl ?_
  refine n_getf (ji := 3) (t := 0) dX1_isGluedLike_4 zf_X1_23 k_44 rfl (by decide) rfl ?_
  refine z_icmp_ge (tgt := 30) dX1_isGluedLike_7 (by decide) (fun q1 => ?_) (fun q2 => ?_)
  · refine z_iconst dX1_isGluedLike_30 ⟨by decide, by decide⟩ ?_
    exact z_zreturn dX1_isGluedLike_31 rfl rfl (by decide) ⟨_, rfl, (h.1 q1)⟩
  · refine z_aload_n dX1_isGluedLike_10 rfl ?_
    refine n_getp (ji := 2) dX1_isGluedLike_11 zf_X1_19 k_44 rfl (by decide) rfl p_44_2 ?_
    refine z_iload_n dX1_isGluedLike_14 rfl ?_
    refine n_iald dX1_isGluedLike_15 k_45 (h.2 q2).1 ?_
    refine z_aload_n dX1_isGluedLike_16 rfl ?_
    refine z_iload_n dX1_isGluedLike_17 rfl ?_
    refine n_iald dX1_isGluedLike_18 k_42 (h.2 q2).2.1 ?_
    refine z_icmp_eq (tgt := 24) dX1_isGluedLike_19 (by decide) (fun q3 => ?_) (fun q4 => ?_)
    · refine n_iinc (lo' := [some (2, 44), some (2, 42), some (0, v2 + 1)]) dX1_isGluedLike_24 rfl (by decide) ((h.2 q2).2.2.1 q3).1 rfl ?_
      refine z_goto (tgt := 2) dX1_isGluedLike_27 (by decide) ?_
      refine z_drop [some (2, 44), some (2, 42), some (0, v2 + 1)] ⟨rfl, rfl, rfl, trivial⟩ ?_
      exact ((h.2 q2).2.2.1 q3).2
    · refine z_iconst dX1_isGluedLike_22 ⟨by decide, by decide⟩ ?_
      exact z_zreturn dX1_isGluedLike_23 rfl rfl (by decide) ⟨_, rfl, ((h.2 q2).2.2.2 q4)⟩
set_option maxRecDepth 20000 in
theorem V_X2_forget  {μ : z_Mem} {d : Nat} {K : z_Mem → Prop} (h : K (z_st μ 80 0 0)) : z_cn m_X2_forget [(2, 80)] μ d K := by
  show z_R m_X2_forget 0 [some (2, 80)] [] z_n μ d _
  refine z_aload_n dX2_forget_0 rfl ?_
  refine z_iconst dX2_forget_1 ⟨by decide, by decide⟩ ?_
  refine n_putI (ji := 0) dX2_forget_2 zf_X2_9 k_80 rfl (by decide) rfl ?_
  exact z_return dX2_forget_5 rfl rfl ⟨rfl, h⟩
set_option maxRecDepth 20000 in
theorem V_X2_remember  {μ : z_Mem} {d : Nat} {K : z_Mem → Prop} (h : ((0 : Int) ≤ μ 80 1 ∧ μ 80 1 < 10) ∧ (z_cn m_X3_copy [(2, (82 + 2 * (μ 80 1))), (2, 21)] μ d (fun m1 => z_I ((m1 80 1) + 1) ∧ ((10 ≤ (m1 80 1) + 1 → z_I (((z_st m1 80 1 0) 80 0) + 1) ∧ (K (z_st (z_st m1 80 1 0) 80 0 (min (((z_st m1 80 1 0) 80 0) + 1) 10)))) ∧ ((m1 80 1) + 1 < 10 → z_I ((m1 80 1) + 1) ∧ (z_I (((z_st m1 80 1 ((m1 80 1) + 1)) 80 0) + 1) ∧ (K (z_st (z_st m1 80 1 ((m1 80 1) + 1)) 80 0 (min (((z_st m1 80 1 ((m1 80 1) + 1)) 80 0) + 1) 10))))))))) : z_cn m_X2_remember [(2, 80), (2, 21)] μ (d + 1) K := by
  show z_R m_X2_remember 0 [some (2, 80), some (2, 21)] [] z_n μ (d + 1) _
  refine z_aload_n dX2_remember_0 rfl ?_
  refine n_getp (ji := 2) dX2_remember_1 zf_X2_20 k_80 rfl (by decide) rfl p_80_2 ?_
  refine z_aload_n dX2_remember_4 rfl ?_
  refine n_getf (ji := 1) (t := 0) dX2_remember_5 zf_X2_15 k_80 rfl (by decide) rfl ?_
  refine n_aaldJ dX2_remember_8 k_81 h.1 (r_81_p h.1) ?_
  refine z_aload_n dX2_remember_9 rfl ?_
  refine n_vN (as := [(2, 21)]) (rest := []) dX2_remember_10 zm_X3_copy zs_X2_25 (r_81_k h.1) (by decide) rfl rfl (Nat.le_of_ble_eq_true rfl) (Nat.le_of_ble_eq_true rfl) h.2 (fun m1 h2 => ?_)
  refine z_aload_n dX2_remember_13 rfl ?_
  refine z_aload_n dX2_remember_14 rfl ?_
  refine n_getf (ji := 1) (t := 0) dX2_remember_15 zf_X2_15 k_80 rfl (by decide) rfl ?_
  refine z_iconst dX2_remember_18 ⟨by decide, by decide⟩ ?_
  refine z_iadd dX2_remember_19 h2.1 ?_
  refine z_bipush dX2_remember_20 (by decide) ?_
  refine z_icmp_ge (tgt := 34) dX2_remember_22 (by decide) (fun q3 => ?_) (fun q4 => ?_)
  · refine z_iconst dX2_remember_34 ⟨by decide, by decide⟩ ?_
    refine n_putI (ji := 1) dX2_remember_35 zf_X2_15 k_80 rfl (by decide) rfl ?_
    refine z_aload_n dX2_remember_38 rfl ?_
    refine z_aload_n dX2_remember_39 rfl ?_
    refine n_getf (ji := 0) (t := 0) dX2_remember_40 zf_X2_9 k_80 rfl (by decide) rfl ?_
    refine z_iconst dX2_remember_43 ⟨by decide, by decide⟩ ?_
    refine z_iadd dX2_remember_44 (h2.2.1 q3).1 ?_
    refine z_bipush dX2_remember_45 (by decide) ?_
    refine z_mmin dX2_remember_47 zq_774 zq_592 zq_133 zq_593 (Nat.le_of_ble_eq_true rfl) ?_
    refine n_putI (ji := 0) dX2_remember_50 zf_X2_9 k_80 rfl (by decide) rfl ?_
    exact z_return dX2_remember_53 rfl rfl ⟨rfl, (h2.2.1 q3).2⟩
  · refine z_aload_n dX2_remember_25 rfl ?_
    refine n_getf (ji := 1) (t := 0) dX2_remember_26 zf_X2_15 k_80 rfl (by decide) rfl ?_
    refine z_iconst dX2_remember_29 ⟨by decide, by decide⟩ ?_
    refine z_iadd dX2_remember_30 (h2.2.2 q4).1 ?_
    refine z_goto (tgt := 35) dX2_remember_31 (by decide) ?_
    refine n_putI (ji := 1) dX2_remember_35 zf_X2_15 k_80 rfl (by decide) rfl ?_
    refine z_aload_n dX2_remember_38 rfl ?_
    refine z_aload_n dX2_remember_39 rfl ?_
    refine n_getf (ji := 0) (t := 0) dX2_remember_40 zf_X2_9 k_80 rfl (by decide) rfl ?_
    refine z_iconst dX2_remember_43 ⟨by decide, by decide⟩ ?_
    refine z_iadd dX2_remember_44 (h2.2.2 q4).2.1 ?_
    refine z_bipush dX2_remember_45 (by decide) ?_
    refine z_mmin dX2_remember_47 zq_774 zq_592 zq_133 zq_593 (Nat.le_of_ble_eq_true rfl) ?_
    refine n_putI (ji := 0) dX2_remember_50 zf_X2_9 k_80 rfl (by decide) rfl ?_
    exact z_return dX2_remember_53 rfl rfl ⟨rfl, (h2.2.2 q4).2.2⟩
set_option maxRecDepth 20000 in
theorem V_X2_bringBack  {μ : z_Mem} {d : Nat} {K : Int → z_Mem → Prop} (h : (¬ μ 80 0 = 0 → (μ 80 1 ≤ 0 → z_I (((z_st μ 80 1 9) 80 0) - 1) ∧ (((0 : Int) ≤ (z_st (z_st μ 80 1 9) 80 0 (((z_st μ 80 1 9) 80 0) - 1)) 80 1 ∧ (z_st (z_st μ 80 1 9) 80 0 (((z_st μ 80 1 9) 80 0) - 1)) 80 1 < 10) ∧ (z_cn m_X3_copy [(2, 21), (2, (82 + 2 * ((z_st (z_st μ 80 1 9) 80 0 (((z_st μ 80 1 9) 80 0) - 1)) 80 1)))] (z_st (z_st μ 80 1 9) 80 0 (((z_st μ 80 1 9) 80 0) - 1)) d (fun m5 => K 1 m5)))) ∧ (0 < μ 80 1 → z_I ((μ 80 1) - 1) ∧ (z_I (((z_st μ 80 1 ((μ 80 1) - 1)) 80 0) - 1) ∧ (((0 : Int) ≤ (z_st (z_st μ 80 1 ((μ 80 1) - 1)) 80 0 (((z_st μ 80 1 ((μ 80 1) - 1)) 80 0) - 1)) 80 1 ∧ (z_st (z_st μ 80 1 ((μ 80 1) - 1)) 80 0 (((z_st μ 80 1 ((μ 80 1) - 1)) 80 0) - 1)) 80 1 < 10) ∧ (z_cn m_X3_copy [(2, 21), (2, (82 + 2 * ((z_st (z_st μ 80 1 ((μ 80 1) - 1)) 80 0 (((z_st μ 80 1 ((μ 80 1) - 1)) 80 0) - 1)) 80 1)))] (z_st (z_st μ 80 1 ((μ 80 1) - 1)) 80 0 (((z_st μ 80 1 ((μ 80 1) - 1)) 80 0) - 1)) d (fun m7 => K 1 m7)))))) ∧ (μ 80 0 = 0 → K 0 μ)) : z_ci m_X2_bringBack [(2, 80), (2, 21)] μ (d + 1) K := by
  show z_R m_X2_bringBack 0 [some (2, 80), some (2, 21)] [] z_n μ (d + 1) _
  refine z_aload_n dX2_bringBack_0 rfl ?_
  refine n_getf (ji := 0) (t := 0) dX2_bringBack_1 zf_X2_9 k_80 rfl (by decide) rfl ?_
  refine z_if_ne (tgt := 9) dX2_bringBack_4 (by decide) (fun q1 => ?_) (fun q2 => ?_)
  · refine z_aload_n dX2_bringBack_9 rfl ?_
    refine z_aload_n dX2_bringBack_10 rfl ?_
    refine n_getf (ji := 1) (t := 0) dX2_bringBack_11 zf_X2_15 k_80 rfl (by decide) rfl ?_
    refine z_if_le (tgt := 26) dX2_bringBack_14 (by decide) (fun q3 => ?_) (fun q4 => ?_)
    · refine z_bipush dX2_bringBack_26 (by decide) ?_
      refine n_putI (ji := 1) dX2_bringBack_28 zf_X2_15 k_80 rfl (by decide) rfl ?_
      refine z_aload_n dX2_bringBack_31 rfl ?_
      refine z_dup dX2_bringBack_32 rfl ?_
      refine n_getf (ji := 0) (t := 0) dX2_bringBack_33 zf_X2_9 k_80 rfl (by decide) rfl ?_
      refine z_iconst dX2_bringBack_36 ⟨by decide, by decide⟩ ?_
      refine z_isub dX2_bringBack_37 ((h.1 q1).1 q3).1 ?_
      refine n_putI (ji := 0) dX2_bringBack_38 zf_X2_9 k_80 rfl (by decide) rfl ?_
      refine z_aload_n dX2_bringBack_41 rfl ?_
      refine z_aload_n dX2_bringBack_42 rfl ?_
      refine n_getp (ji := 2) dX2_bringBack_43 zf_X2_20 k_80 rfl (by decide) rfl p_80_2 ?_
      refine z_aload_n dX2_bringBack_46 rfl ?_
      refine n_getf (ji := 1) (t := 0) dX2_bringBack_47 zf_X2_15 k_80 rfl (by decide) rfl ?_
      refine n_aaldJ dX2_bringBack_50 k_81 ((h.1 q1).1 q3).2.1 (r_81_p ((h.1 q1).1 q3).2.1) ?_
      refine n_vN (as := [(2, (82 + 2 * ((z_st (z_st μ 80 1 9) 80 0 (((z_st μ 80 1 9) 80 0) - 1)) 80 1)))]) (rest := []) dX2_bringBack_51 zm_X3_copy zs_X2_25 k_21 (by decide) rfl rfl (Nat.le_of_ble_eq_true rfl) (Nat.le_of_ble_eq_true rfl) ((h.1 q1).1 q3).2.2 (fun m5 h6 => ?_)
      refine z_iconst dX2_bringBack_54 ⟨by decide, by decide⟩ ?_
      exact z_zreturn dX2_bringBack_55 rfl rfl (by decide) ⟨_, rfl, h6⟩
    · refine z_aload_n dX2_bringBack_17 rfl ?_
      refine n_getf (ji := 1) (t := 0) dX2_bringBack_18 zf_X2_15 k_80 rfl (by decide) rfl ?_
      refine z_iconst dX2_bringBack_21 ⟨by decide, by decide⟩ ?_
      refine z_isub dX2_bringBack_22 ((h.1 q1).2 q4).1 ?_
      refine z_goto (tgt := 28) dX2_bringBack_23 (by decide) ?_
      refine n_putI (ji := 1) dX2_bringBack_28 zf_X2_15 k_80 rfl (by decide) rfl ?_
      refine z_aload_n dX2_bringBack_31 rfl ?_
      refine z_dup dX2_bringBack_32 rfl ?_
      refine n_getf (ji := 0) (t := 0) dX2_bringBack_33 zf_X2_9 k_80 rfl (by decide) rfl ?_
      refine z_iconst dX2_bringBack_36 ⟨by decide, by decide⟩ ?_
      refine z_isub dX2_bringBack_37 ((h.1 q1).2 q4).2.1 ?_
      refine n_putI (ji := 0) dX2_bringBack_38 zf_X2_9 k_80 rfl (by decide) rfl ?_
      refine z_aload_n dX2_bringBack_41 rfl ?_
      refine z_aload_n dX2_bringBack_42 rfl ?_
      refine n_getp (ji := 2) dX2_bringBack_43 zf_X2_20 k_80 rfl (by decide) rfl p_80_2 ?_
      refine z_aload_n dX2_bringBack_46 rfl ?_
      refine n_getf (ji := 1) (t := 0) dX2_bringBack_47 zf_X2_15 k_80 rfl (by decide) rfl ?_
      refine n_aaldJ dX2_bringBack_50 k_81 ((h.1 q1).2 q4).2.2.1 (r_81_p ((h.1 q1).2 q4).2.2.1) ?_
      refine n_vN (as := [(2, (82 + 2 * ((z_st (z_st μ 80 1 ((μ 80 1) - 1)) 80 0 (((z_st μ 80 1 ((μ 80 1) - 1)) 80 0) - 1)) 80 1)))]) (rest := []) dX2_bringBack_51 zm_X3_copy zs_X2_25 k_21 (by decide) rfl rfl (Nat.le_of_ble_eq_true rfl) (Nat.le_of_ble_eq_true rfl) ((h.1 q1).2 q4).2.2.2 (fun m7 h8 => ?_)
      refine z_iconst dX2_bringBack_54 ⟨by decide, by decide⟩ ?_
      exact z_zreturn dX2_bringBack_55 rfl rfl (by decide) ⟨_, rfl, h8⟩
  · refine z_iconst dX2_bringBack_7 ⟨by decide, by decide⟩ ?_
    exact z_zreturn dX2_bringBack_8 rfl rfl (by decide) ⟨_, rfl, (h.2 q2)⟩
set_option maxRecDepth 20000 in
theorem V_X4_read {a : Int}  {μ : z_Mem} {d : Nat} {K : Int → z_Mem → Prop} (h : z_ri m_X4_read 27 [some (2, 3), none, none, some (0, 0), none] (z_st (z_st (z_st (z_st μ 3 2 2) 3 3 (min a 200)) 3 4 0) 3 1 0) (d + 1) K) : z_ci m_X4_read [(2, 3), (2, 2), (0, a)] μ (d + 1) K := by
  show z_R m_X4_read 0 [some (2, 3), some (2, 2), some (0, a), none, none] [] z_n μ (d + 1) _
  refine z_aload_n dX4_read_0 rfl ?_
  refine z_aload_n dX4_read_1 rfl ?_
  refine n_putT dX4_read_2 zf_X4_19 (k_2).1 ?_
  refine z_aload_n dX4_read_5 rfl ?_
  refine z_iload_n dX4_read_6 rfl ?_
  refine z_aload_n dX4_read_7 rfl ?_
  refine n_alen (t0 := 1) dX4_read_8 k_2 (by decide) (fun _ => rfl) (by decide) ?_
  refine z_mmin dX4_read_9 zq_591 zq_592 zq_133 zq_593 (Nat.le_of_ble_eq_true rfl) ?_
  refine n_putI (ji := 3) dX4_read_12 zf_X4_22 k_3 rfl (by decide) rfl ?_
  refine z_aload_n dX4_read_15 rfl ?_
  refine z_iconst dX4_read_16 ⟨by decide, by decide⟩ ?_
  refine n_putI (ji := 4) dX4_read_17 zf_X4_25 k_3 rfl (by decide) rfl ?_
  refine z_aload_n dX4_read_20 rfl ?_
  refine z_iconst dX4_read_21 ⟨by decide, by decide⟩ ?_
  refine n_putI (ji := 1) dX4_read_22 zf_X4_15 k_3 rfl (by decide) rfl ?_
  refine z_iconst dX4_read_25 ⟨by decide, by decide⟩ ?_
  refine n_istore_n (lo' := [some (2, 3), some (2, 2), some (0, a), some (0, 0), none]) dX4_read_26 ⟨Nat.le_of_ble_eq_true rfl, Nat.le_of_ble_eq_true rfl⟩ rfl ?_
  refine z_drop [some (2, 3), none, none, some (0, 0), none] ⟨rfl, rfl, trivial⟩ ?_
  exact h
set_option maxRecDepth 20000 in
theorem V_X4_read_27 {v3 : Int}  {μ : z_Mem} {d : Nat} {K : Int → z_Mem → Prop} (h : (7 < v3 → z_I (8 * (μ 3 3)) ∧ (z_I ((8 * (μ 3 3)) + 1) ∧ (K ((8 * (μ 3 3)) + 1) μ))) ∧ (v3 ≤ 7 → z_ci m_X4_readCube [(2, 3)] μ d (fun x5 m3 => (x5 = (-1) → z_ci m_X4_toNext [(2, 3)] m3 d (fun x10 m8 => (¬ x10 = m8 3 3 → (m8 3 2 = 2) ∧ (((0 : Int) ≤ m8 3 4 ∧ m8 3 4 < 200) ∧ ((m8 2 (m8 3 4) = 59 → z_I ((m8 3 4) + 1) ∧ (z_I (v3 + 1) ∧ (z_ri m_X4_read 27 [some (2, 3), none, none, some (0, v3 + 1), none] (z_st m8 3 4 ((m8 3 4) + 1)) (d + 1) K))) ∧ (¬ m8 2 (m8 3 4) = 59 → z_I (8 * (m8 3 4)) ∧ (z_I ((8 * (m8 3 4)) + 1) ∧ (K ((8 * (m8 3 4)) + 1) m8)))))) ∧ (x10 = m8 3 3 → z_ci m_X4_isSolid [(2, 3)] m8 d (fun x17 m15 => (x17 = 0 → z_I (8 * (m15 3 3)) ∧ (z_I ((8 * (m15 3 3)) + 5) ∧ (K ((8 * (m15 3 3)) + 5) m15))) ∧ (¬ x17 = 0 → K (-1) m15))))) ∧ (¬ x5 = (-1) → K x5 m3)))) : z_ri m_X4_read 27 [some (2, 3), none, none, some (0, v3), none] μ (d + 1) K := by
  show z_R m_X4_read 27 [some (2, 3), none, none, some (0, v3), none] [] z_n μ (d + 1) _
  refine z_iload_n dX4_read_27 rfl ?_
  refine z_bipush dX4_read_28 (by decide) ?_
  refine z_icmp_gt (tgt := 120) dX4_read_30 (by decide) (fun q1 => ?_) (fun q2 => ?_)
  · refine z_bipush dX4_read_120 (by decide) ?_
    refine z_aload_n dX4_read_122 rfl ?_
    refine n_getf (ji := 3) (t := 0) dX4_read_123 zf_X4_22 k_3 rfl (by decide) rfl ?_
    refine z_imul dX4_read_126 (h.1 q1).1 ?_
    refine z_iconst dX4_read_127 ⟨by decide, by decide⟩ ?_
    refine z_iadd dX4_read_128 (h.1 q1).2.1 ?_
    exact z_ireturn dX4_read_129 rfl rfl ⟨_, rfl, (h.1 q1).2.2⟩
  · refine z_aload_n dX4_read_33 rfl ?_
    refine n_vI (as := []) (rest := []) dX4_read_34 zm_X4_readCube zs_X4_34 k_3 (by decide) rfl rfl (Nat.le_of_ble_eq_true rfl) (Nat.le_of_ble_eq_true rfl) (h.2 q2) (fun x5 m3 h4 => ?_)
    refine n_istore (lo' := [some (2, 3), none, none, some (0, v3), some (0, x5)]) dX4_read_37 ⟨Nat.le_of_ble_eq_true rfl, Nat.le_of_ble_eq_true rfl⟩ rfl ?_
    refine z_iload dX4_read_39 rfl ?_
    refine z_iconst dX4_read_41 ⟨by decide, by decide⟩ ?_
    refine z_icmp_eq (tgt := 48) dX4_read_42 (by decide) (fun q6 => ?_) (fun q7 => ?_)
    · refine z_aload_n dX4_read_48 rfl ?_
      refine n_vI (as := []) (rest := []) dX4_read_49 zm_X4_toNext zs_X4_38 k_3 (by decide) rfl rfl (Nat.le_of_ble_eq_true rfl) (Nat.le_of_ble_eq_true rfl) (h4.1 q6) (fun x10 m8 h9 => ?_)
      refine z_aload_n dX4_read_52 rfl ?_
      refine n_getf (ji := 3) (t := 0) dX4_read_53 zf_X4_22 k_3 rfl (by decide) rfl ?_
      refine z_icmp_ne (tgt := 80) dX4_read_56 (by decide) (fun q11 => ?_) (fun q12 => ?_)
      · refine z_aload_n dX4_read_80 rfl ?_
        refine n_getf (ji := 2) (t := 2) dX4_read_81 zf_X4_19 k_3 rfl (by decide) rfl ?_
        rw [(h9.1 q11).1]
        refine z_aload_n dX4_read_84 rfl ?_
        refine n_getf (ji := 4) (t := 0) dX4_read_85 zf_X4_25 k_3 rfl (by decide) rfl ?_
        refine n_iald dX4_read_88 k_2 (h9.1 q11).2.1 ?_
        refine z_bipush dX4_read_89 (by decide) ?_
        refine z_icmp_eq (tgt := 104) dX4_read_91 (by decide) (fun q13 => ?_) (fun q14 => ?_)
        · refine z_aload_n dX4_read_104 rfl ?_
          refine z_dup dX4_read_105 rfl ?_
          refine n_getf (ji := 4) (t := 0) dX4_read_106 zf_X4_25 k_3 rfl (by decide) rfl ?_
          refine z_iconst dX4_read_109 ⟨by decide, by decide⟩ ?_
          refine z_iadd dX4_read_110 ((h9.1 q11).2.2.1 q13).1 ?_
          refine n_putI (ji := 4) dX4_read_111 zf_X4_25 k_3 rfl (by decide) rfl ?_
          refine n_iinc (lo' := [some (2, 3), none, none, some (0, v3 + 1), some (0, x5)]) dX4_read_114 rfl (by decide) ((h9.1 q11).2.2.1 q13).2.1 rfl ?_
          refine z_goto (tgt := 27) dX4_read_117 (by decide) ?_
          refine z_drop [some (2, 3), none, none, some (0, v3 + 1), none] ⟨rfl, rfl, trivial⟩ ?_
          exact ((h9.1 q11).2.2.1 q13).2.2
        · refine z_bipush dX4_read_94 (by decide) ?_
          refine z_aload_n dX4_read_96 rfl ?_
          refine n_getf (ji := 4) (t := 0) dX4_read_97 zf_X4_25 k_3 rfl (by decide) rfl ?_
          refine z_imul dX4_read_100 ((h9.1 q11).2.2.2 q14).1 ?_
          refine z_iconst dX4_read_101 ⟨by decide, by decide⟩ ?_
          refine z_iadd dX4_read_102 ((h9.1 q11).2.2.2 q14).2.1 ?_
          exact z_ireturn dX4_read_103 rfl rfl ⟨_, rfl, ((h9.1 q11).2.2.2 q14).2.2⟩
      · refine z_aload_n dX4_read_59 rfl ?_
        refine n_vI (as := []) (rest := []) dX4_read_60 zm_X4_isSolid zs_X4_41 k_3 (by decide) rfl rfl (Nat.le_of_ble_eq_true rfl) (Nat.le_of_ble_eq_true rfl) (h9.2 q12) (fun x17 m15 h16 => ?_)
        refine z_if_eq (tgt := 70) dX4_read_63 (by decide) (fun q18 => ?_) (fun q19 => ?_)
        · refine z_bipush dX4_read_70 (by decide) ?_
          refine z_aload_n dX4_read_72 rfl ?_
          refine n_getf (ji := 3) (t := 0) dX4_read_73 zf_X4_22 k_3 rfl (by decide) rfl ?_
          refine z_imul dX4_read_76 (h16.1 q18).1 ?_
          refine z_iconst dX4_read_77 ⟨by decide, by decide⟩ ?_
          refine z_iadd dX4_read_78 (h16.1 q18).2.1 ?_
          exact z_ireturn dX4_read_79 rfl rfl ⟨_, rfl, (h16.1 q18).2.2⟩
        · refine z_iconst dX4_read_66 ⟨by decide, by decide⟩ ?_
          refine z_goto (tgt := 79) dX4_read_67 (by decide) ?_
          exact z_ireturn dX4_read_79 rfl rfl ⟨_, rfl, (h16.2 q19)⟩
    · refine z_iload dX4_read_45 rfl ?_
      exact z_ireturn dX4_read_47 rfl rfl ⟨_, rfl, (h4.2 q7)⟩
set_option maxRecDepth 20000 in
theorem V_X4_readCube  {μ : z_Mem} {d : Nat} {K : Int → z_Mem → Prop} (h : z_ci m_X4_toNext [(2, 3)] μ d (fun x3 m1 => z_ci m_X4_passWord [(2, 3)] m1 d (fun x6 m4 => (¬ x6 = 0 → (m4 3 1 < 7 → z_ri m_X4_readCube 37 [some (2, 3), some (0, x3), some (0, 0), none] m4 (d + 1) K) ∧ (7 ≤ m4 3 1 → z_I (8 * x3) ∧ (z_I ((8 * x3) + 3) ∧ (K ((8 * x3) + 3) m4)))) ∧ (x6 = 0 → z_I (8 * x3) ∧ (z_I ((8 * x3) + 1) ∧ (K ((8 * x3) + 1) m4)))))) : z_ci m_X4_readCube [(2, 3)] μ (d + 1) K := by
  show z_R m_X4_readCube 0 [some (2, 3), none, none, none] [] z_n μ (d + 1) _
  refine z_aload_n dX4_readCube_0 rfl ?_
  refine n_vI (as := []) (rest := []) dX4_readCube_1 zm_X4_toNext zs_X4_38 k_3 (by decide) rfl rfl (Nat.le_of_ble_eq_true rfl) (Nat.le_of_ble_eq_true rfl) h (fun x3 m1 h2 => ?_)
  refine n_istore_n (lo' := [some (2, 3), some (0, x3), none, none]) dX4_readCube_4 ⟨Nat.le_of_ble_eq_true rfl, Nat.le_of_ble_eq_true rfl⟩ rfl ?_
  refine z_aload_n dX4_readCube_5 rfl ?_
  refine n_vI (as := []) (rest := []) dX4_readCube_6 zm_X4_passWord zs_X4_45 k_3 (by decide) rfl rfl (Nat.le_of_ble_eq_true rfl) (Nat.le_of_ble_eq_true rfl) h2 (fun x6 m4 h5 => ?_)
  refine z_if_ne (tgt := 19) dX4_readCube_9 (by decide) (fun q7 => ?_) (fun q8 => ?_)
  · refine z_aload_n dX4_readCube_19 rfl ?_
    refine n_getf (ji := 1) (t := 0) dX4_readCube_20 zf_X4_15 k_3 rfl (by decide) rfl ?_
    refine z_bipush dX4_readCube_23 (by decide) ?_
    refine z_icmp_lt (tgt := 35) dX4_readCube_25 (by decide) (fun q9 => ?_) (fun q10 => ?_)
    · refine z_iconst dX4_readCube_35 ⟨by decide, by decide⟩ ?_
      refine n_istore_n (lo' := [some (2, 3), some (0, x3), some (0, 0), none]) dX4_readCube_36 ⟨Nat.le_of_ble_eq_true rfl, Nat.le_of_ble_eq_true rfl⟩ rfl ?_
      refine z_drop [some (2, 3), some (0, x3), some (0, 0), none] ⟨rfl, rfl, rfl, trivial⟩ ?_
      exact ((h5.1 q7).1 q9)
    · refine z_bipush dX4_readCube_28 (by decide) ?_
      refine z_iload_n dX4_readCube_30 rfl ?_
      refine z_imul dX4_readCube_31 ((h5.1 q7).2 q10).1 ?_
      refine z_iconst dX4_readCube_32 ⟨by decide, by decide⟩ ?_
      refine z_iadd dX4_readCube_33 ((h5.1 q7).2 q10).2.1 ?_
      exact z_ireturn dX4_readCube_34 rfl rfl ⟨_, rfl, ((h5.1 q7).2 q10).2.2⟩
  · refine z_bipush dX4_readCube_12 (by decide) ?_
    refine z_iload_n dX4_readCube_14 rfl ?_
    refine z_imul dX4_readCube_15 (h5.2 q8).1 ?_
    refine z_iconst dX4_readCube_16 ⟨by decide, by decide⟩ ?_
    refine z_iadd dX4_readCube_17 (h5.2 q8).2.1 ?_
    exact z_ireturn dX4_readCube_18 rfl rfl ⟨_, rfl, (h5.2 q8).2.2⟩
set_option maxRecDepth 20000 in
theorem V_X4_readCube_37 {v1 v2 : Int}  {μ : z_Mem} {d : Nat} {K : Int → z_Mem → Prop} (h : (3 ≤ v2 → z_ci m_X4_canStand [(2, 3), (0, μ 3 1)] μ d (fun x5 m3 => (¬ x5 = 0 → z_I ((m3 3 1) + 1) ∧ (K (-1) (z_st m3 3 1 ((m3 3 1) + 1)))) ∧ (x5 = 0 → z_I (8 * v1) ∧ (z_I ((8 * v1) + 4) ∧ (K ((8 * v1) + 4) m3))))) ∧ (v2 < 3 → z_ci m_X4_toNext [(2, 3)] μ d (fun x10 m8 => z_ci m_X4_passNumber [(2, 3)] m8 d (fun x13 m11 => (¬ x13 = (-1) → (x13 ≤ 6 → z_I (3 * (m11 3 1)) ∧ (z_I ((3 * (m11 3 1)) + v2) ∧ (((0 : Int) ≤ (3 * (m11 3 1)) + v2 ∧ (3 * (m11 3 1)) + v2 < 21) ∧ (z_I (v2 + 1) ∧ (z_ri m_X4_readCube 37 [some (2, 3), some (0, x10), some (0, v2 + 1), none] (z_st m11 4 ((3 * (m11 3 1)) + v2) x13) (d + 1) K))))) ∧ (6 < x13 → z_I (8 * x10) ∧ (z_I ((8 * x10) + 2) ∧ (K ((8 * x10) + 2) m11)))) ∧ (x13 = (-1) → z_I (8 * x10) ∧ (z_I ((8 * x10) + 1) ∧ (K ((8 * x10) + 1) m11))))))) : z_ri m_X4_readCube 37 [some (2, 3), some (0, v1), some (0, v2), none] μ (d + 1) K := by
  show z_R m_X4_readCube 37 [some (2, 3), some (0, v1), some (0, v2), none] [] z_n μ (d + 1) _
  refine z_iload_n dX4_readCube_37 rfl ?_
  refine z_iconst dX4_readCube_38 ⟨by decide, by decide⟩ ?_
  refine z_icmp_ge (tgt := 97) dX4_readCube_39 (by decide) (fun q1 => ?_) (fun q2 => ?_)
  · refine z_aload_n dX4_readCube_97 rfl ?_
    refine z_aload_n dX4_readCube_98 rfl ?_
    refine n_getf (ji := 1) (t := 0) dX4_readCube_99 zf_X4_15 k_3 rfl (by decide) rfl ?_
    refine n_vI (as := [(0, μ 3 1)]) (rest := []) dX4_readCube_102 zm_X4_canStand zs_X4_51 k_3 (by decide) rfl rfl (Nat.le_of_ble_eq_true rfl) (Nat.le_of_ble_eq_true rfl) (h.1 q1) (fun x5 m3 h4 => ?_)
    refine z_if_ne (tgt := 115) dX4_readCube_105 (by decide) (fun q6 => ?_) (fun q7 => ?_)
    · refine z_aload_n dX4_readCube_115 rfl ?_
      refine z_dup dX4_readCube_116 rfl ?_
      refine n_getf (ji := 1) (t := 0) dX4_readCube_117 zf_X4_15 k_3 rfl (by decide) rfl ?_
      refine z_iconst dX4_readCube_120 ⟨by decide, by decide⟩ ?_
      refine z_iadd dX4_readCube_121 (h4.1 q6).1 ?_
      refine n_putI (ji := 1) dX4_readCube_122 zf_X4_15 k_3 rfl (by decide) rfl ?_
      refine z_iconst dX4_readCube_125 ⟨by decide, by decide⟩ ?_
      exact z_ireturn dX4_readCube_126 rfl rfl ⟨_, rfl, (h4.1 q6).2⟩
    · refine z_bipush dX4_readCube_108 (by decide) ?_
      refine z_iload_n dX4_readCube_110 rfl ?_
      refine z_imul dX4_readCube_111 (h4.2 q7).1 ?_
      refine z_iconst dX4_readCube_112 ⟨by decide, by decide⟩ ?_
      refine z_iadd dX4_readCube_113 (h4.2 q7).2.1 ?_
      exact z_ireturn dX4_readCube_114 rfl rfl ⟨_, rfl, (h4.2 q7).2.2⟩
  · refine z_aload_n dX4_readCube_42 rfl ?_
    refine n_vI (as := []) (rest := []) dX4_readCube_43 zm_X4_toNext zs_X4_38 k_3 (by decide) rfl rfl (Nat.le_of_ble_eq_true rfl) (Nat.le_of_ble_eq_true rfl) (h.2 q2) (fun x10 m8 h9 => ?_)
    refine n_istore_n (lo' := [some (2, 3), some (0, x10), some (0, v2), none]) dX4_readCube_46 ⟨Nat.le_of_ble_eq_true rfl, Nat.le_of_ble_eq_true rfl⟩ rfl ?_
    refine z_aload_n dX4_readCube_47 rfl ?_
    refine n_vI (as := []) (rest := []) dX4_readCube_48 zm_X4_passNumber zs_X4_48 k_3 (by decide) rfl rfl (Nat.le_of_ble_eq_true rfl) (Nat.le_of_ble_eq_true rfl) h9 (fun x13 m11 h12 => ?_)
    refine n_istore_n (lo' := [some (2, 3), some (0, x10), some (0, v2), some (0, x13)]) dX4_readCube_51 ⟨Nat.le_of_ble_eq_true rfl, Nat.le_of_ble_eq_true rfl⟩ rfl ?_
    refine z_iload_n dX4_readCube_52 rfl ?_
    refine z_iconst dX4_readCube_53 ⟨by decide, by decide⟩ ?_
    refine z_icmp_ne (tgt := 64) dX4_readCube_54 (by decide) (fun q14 => ?_) (fun q15 => ?_)
    · refine z_iload_n dX4_readCube_64 rfl ?_
      refine z_bipush dX4_readCube_65 (by decide) ?_
      refine z_icmp_le (tgt := 77) dX4_readCube_67 (by decide) (fun q16 => ?_) (fun q17 => ?_)
      · refine z_aload_n dX4_readCube_77 rfl ?_
        refine n_getp (ji := 0) dX4_readCube_78 zf_X4_9 k_3 rfl (by decide) rfl p_3_0 ?_
        refine z_iconst dX4_readCube_81 ⟨by decide, by decide⟩ ?_
        refine z_aload_n dX4_readCube_82 rfl ?_
        refine n_getf (ji := 1) (t := 0) dX4_readCube_83 zf_X4_15 k_3 rfl (by decide) rfl ?_
        refine z_imul dX4_readCube_86 ((h12.1 q14).1 q16).1 ?_
        refine z_iload_n dX4_readCube_87 rfl ?_
        refine z_iadd dX4_readCube_88 ((h12.1 q14).1 q16).2.1 ?_
        refine z_iload_n dX4_readCube_89 rfl ?_
        refine n_iast dX4_readCube_90 k_4 ((h12.1 q14).1 q16).2.2.1 ?_
        refine n_iinc (lo' := [some (2, 3), some (0, x10), some (0, v2 + 1), some (0, x13)]) dX4_readCube_91 rfl (by decide) ((h12.1 q14).1 q16).2.2.2.1 rfl ?_
        refine z_goto (tgt := 37) dX4_readCube_94 (by decide) ?_
        refine z_drop [some (2, 3), some (0, x10), some (0, v2 + 1), none] ⟨rfl, rfl, rfl, trivial⟩ ?_
        exact ((h12.1 q14).1 q16).2.2.2.2
      · refine z_bipush dX4_readCube_70 (by decide) ?_
        refine z_iload_n dX4_readCube_72 rfl ?_
        refine z_imul dX4_readCube_73 ((h12.1 q14).2 q17).1 ?_
        refine z_iconst dX4_readCube_74 ⟨by decide, by decide⟩ ?_
        refine z_iadd dX4_readCube_75 ((h12.1 q14).2 q17).2.1 ?_
        exact z_ireturn dX4_readCube_76 rfl rfl ⟨_, rfl, ((h12.1 q14).2 q17).2.2⟩
    · refine z_bipush dX4_readCube_57 (by decide) ?_
      refine z_iload_n dX4_readCube_59 rfl ?_
      refine z_imul dX4_readCube_60 (h12.2 q15).1 ?_
      refine z_iconst dX4_readCube_61 ⟨by decide, by decide⟩ ?_
      refine z_iadd dX4_readCube_62 (h12.2 q15).2.1 ?_
      exact z_ireturn dX4_readCube_63 rfl rfl ⟨_, rfl, (h12.2 q15).2.2⟩
set_option maxRecDepth 20000 in
theorem V_X4_toNext  {μ : z_Mem} {d : Nat} {K : Int → z_Mem → Prop} (h : (μ 3 3 ≤ μ 3 4 → K (μ 3 4) μ) ∧ (μ 3 4 < μ 3 3 → (μ 3 2 = 2) ∧ (((0 : Int) ≤ μ 3 4 ∧ μ 3 4 < 200) ∧ ((¬ μ 2 (μ 3 4) = 32 → K (μ 3 4) μ) ∧ (μ 2 (μ 3 4) = 32 → z_I ((μ 3 4) + 1) ∧ (z_ri m_X4_toNext 0 [some (2, 3)] (z_st μ 3 4 ((μ 3 4) + 1)) d K)))))) : z_ci m_X4_toNext [(2, 3)] μ d K := by
  show z_R m_X4_toNext 0 [some (2, 3)] [] z_n μ d _
  refine z_aload_n dX4_toNext_0 rfl ?_
  refine n_getf (ji := 4) (t := 0) dX4_toNext_1 zf_X4_25 k_3 rfl (by decide) rfl ?_
  refine z_aload_n dX4_toNext_4 rfl ?_
  refine n_getf (ji := 3) (t := 0) dX4_toNext_5 zf_X4_22 k_3 rfl (by decide) rfl ?_
  refine z_icmp_ge (tgt := 38) dX4_toNext_8 (by decide) (fun q1 => ?_) (fun q2 => ?_)
  · refine z_aload_n dX4_toNext_38 rfl ?_
    refine n_getf (ji := 4) (t := 0) dX4_toNext_39 zf_X4_25 k_3 rfl (by decide) rfl ?_
    exact z_ireturn dX4_toNext_42 rfl rfl ⟨_, rfl, (h.1 q1)⟩
  · refine z_aload_n dX4_toNext_11 rfl ?_
    refine n_getf (ji := 2) (t := 2) dX4_toNext_12 zf_X4_19 k_3 rfl (by decide) rfl ?_
    rw [(h.2 q2).1]
    refine z_aload_n dX4_toNext_15 rfl ?_
    refine n_getf (ji := 4) (t := 0) dX4_toNext_16 zf_X4_25 k_3 rfl (by decide) rfl ?_
    refine n_iald dX4_toNext_19 k_2 (h.2 q2).2.1 ?_
    refine z_bipush dX4_toNext_20 (by decide) ?_
    refine z_icmp_ne (tgt := 38) dX4_toNext_22 (by decide) (fun q3 => ?_) (fun q4 => ?_)
    · refine z_aload_n dX4_toNext_38 rfl ?_
      refine n_getf (ji := 4) (t := 0) dX4_toNext_39 zf_X4_25 k_3 rfl (by decide) rfl ?_
      exact z_ireturn dX4_toNext_42 rfl rfl ⟨_, rfl, ((h.2 q2).2.2.1 q3)⟩
    · refine z_aload_n dX4_toNext_25 rfl ?_
      refine z_dup dX4_toNext_26 rfl ?_
      refine n_getf (ji := 4) (t := 0) dX4_toNext_27 zf_X4_25 k_3 rfl (by decide) rfl ?_
      refine z_iconst dX4_toNext_30 ⟨by decide, by decide⟩ ?_
      refine z_iadd dX4_toNext_31 ((h.2 q2).2.2.2 q4).1 ?_
      refine n_putI (ji := 4) dX4_toNext_32 zf_X4_25 k_3 rfl (by decide) rfl ?_
      refine z_goto (tgt := 0) dX4_toNext_35 (by decide) ?_
      refine z_drop [some (2, 3)] ⟨rfl, trivial⟩ ?_
      exact ((h.2 q2).2.2.2 q4).2
set_option maxRecDepth 20000 in
theorem V_X4_toNext_0  {μ : z_Mem} {d : Nat} {K : Int → z_Mem → Prop} (h : (μ 3 3 ≤ μ 3 4 → K (μ 3 4) μ) ∧ (μ 3 4 < μ 3 3 → (μ 3 2 = 2) ∧ (((0 : Int) ≤ μ 3 4 ∧ μ 3 4 < 200) ∧ ((¬ μ 2 (μ 3 4) = 32 → K (μ 3 4) μ) ∧ (μ 2 (μ 3 4) = 32 → z_I ((μ 3 4) + 1) ∧ (z_ri m_X4_toNext 0 [some (2, 3)] (z_st μ 3 4 ((μ 3 4) + 1)) d K)))))) : z_ri m_X4_toNext 0 [some (2, 3)] μ d K := by
  show z_R m_X4_toNext 0 [some (2, 3)] [] z_n μ d _
  refine z_aload_n dX4_toNext_0 rfl ?_
  refine n_getf (ji := 4) (t := 0) dX4_toNext_1 zf_X4_25 k_3 rfl (by decide) rfl ?_
  refine z_aload_n dX4_toNext_4 rfl ?_
  refine n_getf (ji := 3) (t := 0) dX4_toNext_5 zf_X4_22 k_3 rfl (by decide) rfl ?_
  refine z_icmp_ge (tgt := 38) dX4_toNext_8 (by decide) (fun q1 => ?_) (fun q2 => ?_)
  · refine z_aload_n dX4_toNext_38 rfl ?_
    refine n_getf (ji := 4) (t := 0) dX4_toNext_39 zf_X4_25 k_3 rfl (by decide) rfl ?_
    exact z_ireturn dX4_toNext_42 rfl rfl ⟨_, rfl, (h.1 q1)⟩
  · refine z_aload_n dX4_toNext_11 rfl ?_
    refine n_getf (ji := 2) (t := 2) dX4_toNext_12 zf_X4_19 k_3 rfl (by decide) rfl ?_
    rw [(h.2 q2).1]
    refine z_aload_n dX4_toNext_15 rfl ?_
    refine n_getf (ji := 4) (t := 0) dX4_toNext_16 zf_X4_25 k_3 rfl (by decide) rfl ?_
    refine n_iald dX4_toNext_19 k_2 (h.2 q2).2.1 ?_
    refine z_bipush dX4_toNext_20 (by decide) ?_
    refine z_icmp_ne (tgt := 38) dX4_toNext_22 (by decide) (fun q3 => ?_) (fun q4 => ?_)
    · refine z_aload_n dX4_toNext_38 rfl ?_
      refine n_getf (ji := 4) (t := 0) dX4_toNext_39 zf_X4_25 k_3 rfl (by decide) rfl ?_
      exact z_ireturn dX4_toNext_42 rfl rfl ⟨_, rfl, ((h.2 q2).2.2.1 q3)⟩
    · refine z_aload_n dX4_toNext_25 rfl ?_
      refine z_dup dX4_toNext_26 rfl ?_
      refine n_getf (ji := 4) (t := 0) dX4_toNext_27 zf_X4_25 k_3 rfl (by decide) rfl ?_
      refine z_iconst dX4_toNext_30 ⟨by decide, by decide⟩ ?_
      refine z_iadd dX4_toNext_31 ((h.2 q2).2.2.2 q4).1 ?_
      refine n_putI (ji := 4) dX4_toNext_32 zf_X4_25 k_3 rfl (by decide) rfl ?_
      refine z_goto (tgt := 0) dX4_toNext_35 (by decide) ?_
      refine z_drop [some (2, 3)] ⟨rfl, trivial⟩ ?_
      exact ((h.2 q2).2.2.2 q4).2
set_option maxRecDepth 20000 in
theorem V_X4_passWord  {μ : z_Mem} {d : Nat} {K : Int → z_Mem → Prop} (h : z_ri m_X4_passWord 5 [some (2, 3), some (0, μ 3 4)] μ d K) : z_ci m_X4_passWord [(2, 3)] μ d K := by
  show z_R m_X4_passWord 0 [some (2, 3), none] [] z_n μ d _
  refine z_aload_n dX4_passWord_0 rfl ?_
  refine n_getf (ji := 4) (t := 0) dX4_passWord_1 zf_X4_25 k_3 rfl (by decide) rfl ?_
  refine n_istore_n (lo' := [some (2, 3), some (0, μ 3 4)]) dX4_passWord_4 ⟨Nat.le_of_ble_eq_true rfl, Nat.le_of_ble_eq_true rfl⟩ rfl ?_
  refine z_drop [some (2, 3), some (0, μ 3 4)] ⟨rfl, rfl, trivial⟩ ?_
  exact h
set_option maxRecDepth 20000 in
theorem V_X4_passWord_5 {v1 : Int}  {μ : z_Mem} {d : Nat} {K : Int → z_Mem → Prop} (h : (μ 3 3 ≤ μ 3 4 → z_I ((μ 3 4) - v1) ∧ ((¬ (μ 3 4) - v1 = 4 → K 0 μ) ∧ ((μ 3 4) - v1 = 4 → (μ 3 2 = 2) ∧ (((0 : Int) ≤ v1 ∧ v1 < 200) ∧ ((¬ μ 2 v1 = 99 → K 0 μ) ∧ (μ 2 v1 = 99 → (μ 3 2 = 2) ∧ (z_I (v1 + 1) ∧ (((0 : Int) ≤ v1 + 1 ∧ v1 + 1 < 200) ∧ ((¬ μ 2 (v1 + 1) = 117 → K 0 μ) ∧ (μ 2 (v1 + 1) = 117 → (μ 3 2 = 2) ∧ (z_I (v1 + 2) ∧ (((0 : Int) ≤ v1 + 2 ∧ v1 + 2 < 200) ∧ ((¬ μ 2 (v1 + 2) = 98 → K 0 μ) ∧ (μ 2 (v1 + 2) = 98 → (μ 3 2 = 2) ∧ (z_I (v1 + 3) ∧ (((0 : Int) ≤ v1 + 3 ∧ v1 + 3 < 200) ∧ ((¬ μ 2 (v1 + 3) = 101 → K 0 μ) ∧ (μ 2 (v1 + 3) = 101 → K 1 μ)))))))))))))))))) ∧ (μ 3 4 < μ 3 3 → (μ 3 2 = 2) ∧ (((0 : Int) ≤ μ 3 4 ∧ μ 3 4 < 200) ∧ ((μ 2 (μ 3 4) < 97 → z_I ((μ 3 4) - v1) ∧ ((¬ (μ 3 4) - v1 = 4 → K 0 μ) ∧ ((μ 3 4) - v1 = 4 → (μ 3 2 = 2) ∧ (((0 : Int) ≤ v1 ∧ v1 < 200) ∧ ((¬ μ 2 v1 = 99 → K 0 μ) ∧ (μ 2 v1 = 99 → (μ 3 2 = 2) ∧ (z_I (v1 + 1) ∧ (((0 : Int) ≤ v1 + 1 ∧ v1 + 1 < 200) ∧ ((¬ μ 2 (v1 + 1) = 117 → K 0 μ) ∧ (μ 2 (v1 + 1) = 117 → (μ 3 2 = 2) ∧ (z_I (v1 + 2) ∧ (((0 : Int) ≤ v1 + 2 ∧ v1 + 2 < 200) ∧ ((¬ μ 2 (v1 + 2) = 98 → K 0 μ) ∧ (μ 2 (v1 + 2) = 98 → (μ 3 2 = 2) ∧ (z_I (v1 + 3) ∧ (((0 : Int) ≤ v1 + 3 ∧ v1 + 3 < 200) ∧ ((¬ μ 2 (v1 + 3) = 101 → K 0 μ) ∧ (μ 2 (v1 + 3) = 101 → K 1 μ)))))))))))))))))) ∧ (97 ≤ μ 2 (μ 3 4) → (μ 3 2 = 2) ∧ (((0 : Int) ≤ μ 3 4 ∧ μ 3 4 < 200) ∧ ((122 < μ 2 (μ 3 4) → z_I ((μ 3 4) - v1) ∧ ((¬ (μ 3 4) - v1 = 4 → K 0 μ) ∧ ((μ 3 4) - v1 = 4 → (μ 3 2 = 2) ∧ (((0 : Int) ≤ v1 ∧ v1 < 200) ∧ ((¬ μ 2 v1 = 99 → K 0 μ) ∧ (μ 2 v1 = 99 → (μ 3 2 = 2) ∧ (z_I (v1 + 1) ∧ (((0 : Int) ≤ v1 + 1 ∧ v1 + 1 < 200) ∧ ((¬ μ 2 (v1 + 1) = 117 → K 0 μ) ∧ (μ 2 (v1 + 1) = 117 → (μ 3 2 = 2) ∧ (z_I (v1 + 2) ∧ (((0 : Int) ≤ v1 + 2 ∧ v1 + 2 < 200) ∧ ((¬ μ 2 (v1 + 2) = 98 → K 0 μ) ∧ (μ 2 (v1 + 2) = 98 → (μ 3 2 = 2) ∧ (z_I (v1 + 3) ∧ (((0 : Int) ≤ v1 + 3 ∧ v1 + 3 < 200) ∧ ((¬ μ 2 (v1 + 3) = 101 → K 0 μ) ∧ (μ 2 (v1 + 3) = 101 → K 1 μ)))))))))))))))))) ∧ (μ 2 (μ 3 4) ≤ 122 → z_I ((μ 3 4) + 1) ∧ (z_ri m_X4_passWord 5 [some (2, 3), some (0, v1)] (z_st μ 3 4 ((μ 3 4) + 1)) d K))))))))) : z_ri m_X4_passWord 5 [some (2, 3), some (0, v1)] μ d K := by
  show z_R m_X4_passWord 5 [some (2, 3), some (0, v1)] [] z_n μ d _
  refine z_aload_n dX4_passWord_5 rfl ?_
  refine n_getf (ji := 4) (t := 0) dX4_passWord_6 zf_X4_25 k_3 rfl (by decide) rfl ?_
  refine z_aload_n dX4_passWord_9 rfl ?_
  refine n_getf (ji := 3) (t := 0) dX4_passWord_10 zf_X4_22 k_3 rfl (by decide) rfl ?_
  refine z_icmp_ge (tgt := 57) dX4_passWord_13 (by decide) (fun q1 => ?_) (fun q2 => ?_)
  · refine z_aload_n dX4_passWord_57 rfl ?_
    refine n_getf (ji := 4) (t := 0) dX4_passWord_58 zf_X4_25 k_3 rfl (by decide) rfl ?_
    refine z_iload_n dX4_passWord_61 rfl ?_
    refine z_isub dX4_passWord_62 (h.1 q1).1 ?_
    refine z_iconst dX4_passWord_63 ⟨by decide, by decide⟩ ?_
    refine z_icmp_ne (tgt := 121) dX4_passWord_64 (by decide) (fun q3 => ?_) (fun q4 => ?_)
    · refine z_iconst dX4_passWord_121 ⟨by decide, by decide⟩ ?_
      exact z_zreturn dX4_passWord_122 rfl rfl (by decide) ⟨_, rfl, ((h.1 q1).2.1 q3)⟩
    · refine z_aload_n dX4_passWord_67 rfl ?_
      refine n_getf (ji := 2) (t := 2) dX4_passWord_68 zf_X4_19 k_3 rfl (by decide) rfl ?_
      rw [((h.1 q1).2.2 q4).1]
      refine z_iload_n dX4_passWord_71 rfl ?_
      refine n_iald dX4_passWord_72 k_2 ((h.1 q1).2.2 q4).2.1 ?_
      refine z_bipush dX4_passWord_73 (by decide) ?_
      refine z_icmp_ne (tgt := 121) dX4_passWord_75 (by decide) (fun q5 => ?_) (fun q6 => ?_)
      · refine z_iconst dX4_passWord_121 ⟨by decide, by decide⟩ ?_
        exact z_zreturn dX4_passWord_122 rfl rfl (by decide) ⟨_, rfl, (((h.1 q1).2.2 q4).2.2.1 q5)⟩
      · refine z_aload_n dX4_passWord_78 rfl ?_
        refine n_getf (ji := 2) (t := 2) dX4_passWord_79 zf_X4_19 k_3 rfl (by decide) rfl ?_
        rw [(((h.1 q1).2.2 q4).2.2.2 q6).1]
        refine z_iload_n dX4_passWord_82 rfl ?_
        refine z_iconst dX4_passWord_83 ⟨by decide, by decide⟩ ?_
        refine z_iadd dX4_passWord_84 (((h.1 q1).2.2 q4).2.2.2 q6).2.1 ?_
        refine n_iald dX4_passWord_85 k_2 (((h.1 q1).2.2 q4).2.2.2 q6).2.2.1 ?_
        refine z_bipush dX4_passWord_86 (by decide) ?_
        refine z_icmp_ne (tgt := 121) dX4_passWord_88 (by decide) (fun q7 => ?_) (fun q8 => ?_)
        · refine z_iconst dX4_passWord_121 ⟨by decide, by decide⟩ ?_
          exact z_zreturn dX4_passWord_122 rfl rfl (by decide) ⟨_, rfl, ((((h.1 q1).2.2 q4).2.2.2 q6).2.2.2.1 q7)⟩
        · refine z_aload_n dX4_passWord_91 rfl ?_
          refine n_getf (ji := 2) (t := 2) dX4_passWord_92 zf_X4_19 k_3 rfl (by decide) rfl ?_
          rw [((((h.1 q1).2.2 q4).2.2.2 q6).2.2.2.2 q8).1]
          refine z_iload_n dX4_passWord_95 rfl ?_
          refine z_iconst dX4_passWord_96 ⟨by decide, by decide⟩ ?_
          refine z_iadd dX4_passWord_97 ((((h.1 q1).2.2 q4).2.2.2 q6).2.2.2.2 q8).2.1 ?_
          refine n_iald dX4_passWord_98 k_2 ((((h.1 q1).2.2 q4).2.2.2 q6).2.2.2.2 q8).2.2.1 ?_
          refine z_bipush dX4_passWord_99 (by decide) ?_
          refine z_icmp_ne (tgt := 121) dX4_passWord_101 (by decide) (fun q9 => ?_) (fun q10 => ?_)
          · refine z_iconst dX4_passWord_121 ⟨by decide, by decide⟩ ?_
            exact z_zreturn dX4_passWord_122 rfl rfl (by decide) ⟨_, rfl, (((((h.1 q1).2.2 q4).2.2.2 q6).2.2.2.2 q8).2.2.2.1 q9)⟩
          · refine z_aload_n dX4_passWord_104 rfl ?_
            refine n_getf (ji := 2) (t := 2) dX4_passWord_105 zf_X4_19 k_3 rfl (by decide) rfl ?_
            rw [(((((h.1 q1).2.2 q4).2.2.2 q6).2.2.2.2 q8).2.2.2.2 q10).1]
            refine z_iload_n dX4_passWord_108 rfl ?_
            refine z_iconst dX4_passWord_109 ⟨by decide, by decide⟩ ?_
            refine z_iadd dX4_passWord_110 (((((h.1 q1).2.2 q4).2.2.2 q6).2.2.2.2 q8).2.2.2.2 q10).2.1 ?_
            refine n_iald dX4_passWord_111 k_2 (((((h.1 q1).2.2 q4).2.2.2 q6).2.2.2.2 q8).2.2.2.2 q10).2.2.1 ?_
            refine z_bipush dX4_passWord_112 (by decide) ?_
            refine z_icmp_ne (tgt := 121) dX4_passWord_114 (by decide) (fun q11 => ?_) (fun q12 => ?_)
            · refine z_iconst dX4_passWord_121 ⟨by decide, by decide⟩ ?_
              exact z_zreturn dX4_passWord_122 rfl rfl (by decide) ⟨_, rfl, ((((((h.1 q1).2.2 q4).2.2.2 q6).2.2.2.2 q8).2.2.2.2 q10).2.2.2.1 q11)⟩
            · refine z_iconst dX4_passWord_117 ⟨by decide, by decide⟩ ?_
              refine z_goto (tgt := 122) dX4_passWord_118 (by decide) ?_
              exact z_zreturn dX4_passWord_122 rfl rfl (by decide) ⟨_, rfl, ((((((h.1 q1).2.2 q4).2.2.2 q6).2.2.2.2 q8).2.2.2.2 q10).2.2.2.2 q12)⟩
  · refine z_aload_n dX4_passWord_16 rfl ?_
    refine n_getf (ji := 2) (t := 2) dX4_passWord_17 zf_X4_19 k_3 rfl (by decide) rfl ?_
    rw [(h.2 q2).1]
    refine z_aload_n dX4_passWord_20 rfl ?_
    refine n_getf (ji := 4) (t := 0) dX4_passWord_21 zf_X4_25 k_3 rfl (by decide) rfl ?_
    refine n_iald dX4_passWord_24 k_2 (h.2 q2).2.1 ?_
    refine z_bipush dX4_passWord_25 (by decide) ?_
    refine z_icmp_lt (tgt := 57) dX4_passWord_27 (by decide) (fun q13 => ?_) (fun q14 => ?_)
    · refine z_aload_n dX4_passWord_57 rfl ?_
      refine n_getf (ji := 4) (t := 0) dX4_passWord_58 zf_X4_25 k_3 rfl (by decide) rfl ?_
      refine z_iload_n dX4_passWord_61 rfl ?_
      refine z_isub dX4_passWord_62 ((h.2 q2).2.2.1 q13).1 ?_
      refine z_iconst dX4_passWord_63 ⟨by decide, by decide⟩ ?_
      refine z_icmp_ne (tgt := 121) dX4_passWord_64 (by decide) (fun q15 => ?_) (fun q16 => ?_)
      · refine z_iconst dX4_passWord_121 ⟨by decide, by decide⟩ ?_
        exact z_zreturn dX4_passWord_122 rfl rfl (by decide) ⟨_, rfl, (((h.2 q2).2.2.1 q13).2.1 q15)⟩
      · refine z_aload_n dX4_passWord_67 rfl ?_
        refine n_getf (ji := 2) (t := 2) dX4_passWord_68 zf_X4_19 k_3 rfl (by decide) rfl ?_
        rw [(((h.2 q2).2.2.1 q13).2.2 q16).1]
        refine z_iload_n dX4_passWord_71 rfl ?_
        refine n_iald dX4_passWord_72 k_2 (((h.2 q2).2.2.1 q13).2.2 q16).2.1 ?_
        refine z_bipush dX4_passWord_73 (by decide) ?_
        refine z_icmp_ne (tgt := 121) dX4_passWord_75 (by decide) (fun q17 => ?_) (fun q18 => ?_)
        · refine z_iconst dX4_passWord_121 ⟨by decide, by decide⟩ ?_
          exact z_zreturn dX4_passWord_122 rfl rfl (by decide) ⟨_, rfl, ((((h.2 q2).2.2.1 q13).2.2 q16).2.2.1 q17)⟩
        · refine z_aload_n dX4_passWord_78 rfl ?_
          refine n_getf (ji := 2) (t := 2) dX4_passWord_79 zf_X4_19 k_3 rfl (by decide) rfl ?_
          rw [((((h.2 q2).2.2.1 q13).2.2 q16).2.2.2 q18).1]
          refine z_iload_n dX4_passWord_82 rfl ?_
          refine z_iconst dX4_passWord_83 ⟨by decide, by decide⟩ ?_
          refine z_iadd dX4_passWord_84 ((((h.2 q2).2.2.1 q13).2.2 q16).2.2.2 q18).2.1 ?_
          refine n_iald dX4_passWord_85 k_2 ((((h.2 q2).2.2.1 q13).2.2 q16).2.2.2 q18).2.2.1 ?_
          refine z_bipush dX4_passWord_86 (by decide) ?_
          refine z_icmp_ne (tgt := 121) dX4_passWord_88 (by decide) (fun q19 => ?_) (fun q20 => ?_)
          · refine z_iconst dX4_passWord_121 ⟨by decide, by decide⟩ ?_
            exact z_zreturn dX4_passWord_122 rfl rfl (by decide) ⟨_, rfl, (((((h.2 q2).2.2.1 q13).2.2 q16).2.2.2 q18).2.2.2.1 q19)⟩
          · refine z_aload_n dX4_passWord_91 rfl ?_
            refine n_getf (ji := 2) (t := 2) dX4_passWord_92 zf_X4_19 k_3 rfl (by decide) rfl ?_
            rw [(((((h.2 q2).2.2.1 q13).2.2 q16).2.2.2 q18).2.2.2.2 q20).1]
            refine z_iload_n dX4_passWord_95 rfl ?_
            refine z_iconst dX4_passWord_96 ⟨by decide, by decide⟩ ?_
            refine z_iadd dX4_passWord_97 (((((h.2 q2).2.2.1 q13).2.2 q16).2.2.2 q18).2.2.2.2 q20).2.1 ?_
            refine n_iald dX4_passWord_98 k_2 (((((h.2 q2).2.2.1 q13).2.2 q16).2.2.2 q18).2.2.2.2 q20).2.2.1 ?_
            refine z_bipush dX4_passWord_99 (by decide) ?_
            refine z_icmp_ne (tgt := 121) dX4_passWord_101 (by decide) (fun q21 => ?_) (fun q22 => ?_)
            · refine z_iconst dX4_passWord_121 ⟨by decide, by decide⟩ ?_
              exact z_zreturn dX4_passWord_122 rfl rfl (by decide) ⟨_, rfl, ((((((h.2 q2).2.2.1 q13).2.2 q16).2.2.2 q18).2.2.2.2 q20).2.2.2.1 q21)⟩
            · refine z_aload_n dX4_passWord_104 rfl ?_
              refine n_getf (ji := 2) (t := 2) dX4_passWord_105 zf_X4_19 k_3 rfl (by decide) rfl ?_
              rw [((((((h.2 q2).2.2.1 q13).2.2 q16).2.2.2 q18).2.2.2.2 q20).2.2.2.2 q22).1]
              refine z_iload_n dX4_passWord_108 rfl ?_
              refine z_iconst dX4_passWord_109 ⟨by decide, by decide⟩ ?_
              refine z_iadd dX4_passWord_110 ((((((h.2 q2).2.2.1 q13).2.2 q16).2.2.2 q18).2.2.2.2 q20).2.2.2.2 q22).2.1 ?_
              refine n_iald dX4_passWord_111 k_2 ((((((h.2 q2).2.2.1 q13).2.2 q16).2.2.2 q18).2.2.2.2 q20).2.2.2.2 q22).2.2.1 ?_
              refine z_bipush dX4_passWord_112 (by decide) ?_
              refine z_icmp_ne (tgt := 121) dX4_passWord_114 (by decide) (fun q23 => ?_) (fun q24 => ?_)
              · refine z_iconst dX4_passWord_121 ⟨by decide, by decide⟩ ?_
                exact z_zreturn dX4_passWord_122 rfl rfl (by decide) ⟨_, rfl, (((((((h.2 q2).2.2.1 q13).2.2 q16).2.2.2 q18).2.2.2.2 q20).2.2.2.2 q22).2.2.2.1 q23)⟩
              · refine z_iconst dX4_passWord_117 ⟨by decide, by decide⟩ ?_
                refine z_goto (tgt := 122) dX4_passWord_118 (by decide) ?_
                exact z_zreturn dX4_passWord_122 rfl rfl (by decide) ⟨_, rfl, (((((((h.2 q2).2.2.1 q13).2.2 q16).2.2.2 q18).2.2.2.2 q20).2.2.2.2 q22).2.2.2.2 q24)⟩
    · refine z_aload_n dX4_passWord_30 rfl ?_
      refine n_getf (ji := 2) (t := 2) dX4_passWord_31 zf_X4_19 k_3 rfl (by decide) rfl ?_
      rw [((h.2 q2).2.2.2 q14).1]
      refine z_aload_n dX4_passWord_34 rfl ?_
      refine n_getf (ji := 4) (t := 0) dX4_passWord_35 zf_X4_25 k_3 rfl (by decide) rfl ?_
      refine n_iald dX4_passWord_38 k_2 ((h.2 q2).2.2.2 q14).2.1 ?_
      refine z_bipush dX4_passWord_39 (by decide) ?_
      refine z_icmp_gt (tgt := 57) dX4_passWord_41 (by decide) (fun q25 => ?_) (fun q26 => ?_)
      · refine z_aload_n dX4_passWord_57 rfl ?_
        refine n_getf (ji := 4) (t := 0) dX4_passWord_58 zf_X4_25 k_3 rfl (by decide) rfl ?_
        refine z_iload_n dX4_passWord_61 rfl ?_
        refine z_isub dX4_passWord_62 (((h.2 q2).2.2.2 q14).2.2.1 q25).1 ?_
        refine z_iconst dX4_passWord_63 ⟨by decide, by decide⟩ ?_
        refine z_icmp_ne (tgt := 121) dX4_passWord_64 (by decide) (fun q27 => ?_) (fun q28 => ?_)
        · refine z_iconst dX4_passWord_121 ⟨by decide, by decide⟩ ?_
          exact z_zreturn dX4_passWord_122 rfl rfl (by decide) ⟨_, rfl, ((((h.2 q2).2.2.2 q14).2.2.1 q25).2.1 q27)⟩
        · refine z_aload_n dX4_passWord_67 rfl ?_
          refine n_getf (ji := 2) (t := 2) dX4_passWord_68 zf_X4_19 k_3 rfl (by decide) rfl ?_
          rw [((((h.2 q2).2.2.2 q14).2.2.1 q25).2.2 q28).1]
          refine z_iload_n dX4_passWord_71 rfl ?_
          refine n_iald dX4_passWord_72 k_2 ((((h.2 q2).2.2.2 q14).2.2.1 q25).2.2 q28).2.1 ?_
          refine z_bipush dX4_passWord_73 (by decide) ?_
          refine z_icmp_ne (tgt := 121) dX4_passWord_75 (by decide) (fun q29 => ?_) (fun q30 => ?_)
          · refine z_iconst dX4_passWord_121 ⟨by decide, by decide⟩ ?_
            exact z_zreturn dX4_passWord_122 rfl rfl (by decide) ⟨_, rfl, (((((h.2 q2).2.2.2 q14).2.2.1 q25).2.2 q28).2.2.1 q29)⟩
          · refine z_aload_n dX4_passWord_78 rfl ?_
            refine n_getf (ji := 2) (t := 2) dX4_passWord_79 zf_X4_19 k_3 rfl (by decide) rfl ?_
            rw [(((((h.2 q2).2.2.2 q14).2.2.1 q25).2.2 q28).2.2.2 q30).1]
            refine z_iload_n dX4_passWord_82 rfl ?_
            refine z_iconst dX4_passWord_83 ⟨by decide, by decide⟩ ?_
            refine z_iadd dX4_passWord_84 (((((h.2 q2).2.2.2 q14).2.2.1 q25).2.2 q28).2.2.2 q30).2.1 ?_
            refine n_iald dX4_passWord_85 k_2 (((((h.2 q2).2.2.2 q14).2.2.1 q25).2.2 q28).2.2.2 q30).2.2.1 ?_
            refine z_bipush dX4_passWord_86 (by decide) ?_
            refine z_icmp_ne (tgt := 121) dX4_passWord_88 (by decide) (fun q31 => ?_) (fun q32 => ?_)
            · refine z_iconst dX4_passWord_121 ⟨by decide, by decide⟩ ?_
              exact z_zreturn dX4_passWord_122 rfl rfl (by decide) ⟨_, rfl, ((((((h.2 q2).2.2.2 q14).2.2.1 q25).2.2 q28).2.2.2 q30).2.2.2.1 q31)⟩
            · refine z_aload_n dX4_passWord_91 rfl ?_
              refine n_getf (ji := 2) (t := 2) dX4_passWord_92 zf_X4_19 k_3 rfl (by decide) rfl ?_
              rw [((((((h.2 q2).2.2.2 q14).2.2.1 q25).2.2 q28).2.2.2 q30).2.2.2.2 q32).1]
              refine z_iload_n dX4_passWord_95 rfl ?_
              refine z_iconst dX4_passWord_96 ⟨by decide, by decide⟩ ?_
              refine z_iadd dX4_passWord_97 ((((((h.2 q2).2.2.2 q14).2.2.1 q25).2.2 q28).2.2.2 q30).2.2.2.2 q32).2.1 ?_
              refine n_iald dX4_passWord_98 k_2 ((((((h.2 q2).2.2.2 q14).2.2.1 q25).2.2 q28).2.2.2 q30).2.2.2.2 q32).2.2.1 ?_
              refine z_bipush dX4_passWord_99 (by decide) ?_
              refine z_icmp_ne (tgt := 121) dX4_passWord_101 (by decide) (fun q33 => ?_) (fun q34 => ?_)
              · refine z_iconst dX4_passWord_121 ⟨by decide, by decide⟩ ?_
                exact z_zreturn dX4_passWord_122 rfl rfl (by decide) ⟨_, rfl, (((((((h.2 q2).2.2.2 q14).2.2.1 q25).2.2 q28).2.2.2 q30).2.2.2.2 q32).2.2.2.1 q33)⟩
              · refine z_aload_n dX4_passWord_104 rfl ?_
                refine n_getf (ji := 2) (t := 2) dX4_passWord_105 zf_X4_19 k_3 rfl (by decide) rfl ?_
                rw [(((((((h.2 q2).2.2.2 q14).2.2.1 q25).2.2 q28).2.2.2 q30).2.2.2.2 q32).2.2.2.2 q34).1]
                refine z_iload_n dX4_passWord_108 rfl ?_
                refine z_iconst dX4_passWord_109 ⟨by decide, by decide⟩ ?_
                refine z_iadd dX4_passWord_110 (((((((h.2 q2).2.2.2 q14).2.2.1 q25).2.2 q28).2.2.2 q30).2.2.2.2 q32).2.2.2.2 q34).2.1 ?_
                refine n_iald dX4_passWord_111 k_2 (((((((h.2 q2).2.2.2 q14).2.2.1 q25).2.2 q28).2.2.2 q30).2.2.2.2 q32).2.2.2.2 q34).2.2.1 ?_
                refine z_bipush dX4_passWord_112 (by decide) ?_
                refine z_icmp_ne (tgt := 121) dX4_passWord_114 (by decide) (fun q35 => ?_) (fun q36 => ?_)
                · refine z_iconst dX4_passWord_121 ⟨by decide, by decide⟩ ?_
                  exact z_zreturn dX4_passWord_122 rfl rfl (by decide) ⟨_, rfl, ((((((((h.2 q2).2.2.2 q14).2.2.1 q25).2.2 q28).2.2.2 q30).2.2.2.2 q32).2.2.2.2 q34).2.2.2.1 q35)⟩
                · refine z_iconst dX4_passWord_117 ⟨by decide, by decide⟩ ?_
                  refine z_goto (tgt := 122) dX4_passWord_118 (by decide) ?_
                  exact z_zreturn dX4_passWord_122 rfl rfl (by decide) ⟨_, rfl, ((((((((h.2 q2).2.2.2 q14).2.2.1 q25).2.2 q28).2.2.2 q30).2.2.2.2 q32).2.2.2.2 q34).2.2.2.2 q36)⟩
      · refine z_aload_n dX4_passWord_44 rfl ?_
        refine z_dup dX4_passWord_45 rfl ?_
        refine n_getf (ji := 4) (t := 0) dX4_passWord_46 zf_X4_25 k_3 rfl (by decide) rfl ?_
        refine z_iconst dX4_passWord_49 ⟨by decide, by decide⟩ ?_
        refine z_iadd dX4_passWord_50 (((h.2 q2).2.2.2 q14).2.2.2 q26).1 ?_
        refine n_putI (ji := 4) dX4_passWord_51 zf_X4_25 k_3 rfl (by decide) rfl ?_
        refine z_goto (tgt := 5) dX4_passWord_54 (by decide) ?_
        refine z_drop [some (2, 3), some (0, v1)] ⟨rfl, rfl, trivial⟩ ?_
        exact (((h.2 q2).2.2.2 q14).2.2.2 q26).2
set_option maxRecDepth 20000 in
theorem V_X4_passNumber  {μ : z_Mem} {d : Nat} {K : Int → z_Mem → Prop} (h : z_ri m_X4_passNumber 2 [some (2, 3), some (0, (-1)), none] μ (d + 1) K) : z_ci m_X4_passNumber [(2, 3)] μ (d + 1) K := by
  show z_R m_X4_passNumber 0 [some (2, 3), none, none] [] z_n μ (d + 1) _
  refine z_iconst dX4_passNumber_0 ⟨by decide, by decide⟩ ?_
  refine n_istore_n (lo' := [some (2, 3), some (0, (-1)), none]) dX4_passNumber_1 ⟨Nat.le_of_ble_eq_true rfl, Nat.le_of_ble_eq_true rfl⟩ rfl ?_
  refine z_drop [some (2, 3), some (0, (-1)), none] ⟨rfl, rfl, trivial⟩ ?_
  exact h
set_option maxRecDepth 20000 in
theorem V_X4_passNumber_2 {v1 : Int}  {μ : z_Mem} {d : Nat} {K : Int → z_Mem → Prop} (h : (μ 3 3 ≤ μ 3 4 → K v1 μ) ∧ (μ 3 4 < μ 3 3 → (μ 3 2 = 2) ∧ (((0 : Int) ≤ μ 3 4 ∧ μ 3 4 < 200) ∧ ((μ 2 (μ 3 4) < 48 → K v1 μ) ∧ (48 ≤ μ 2 (μ 3 4) → (μ 3 2 = 2) ∧ (((0 : Int) ≤ μ 3 4 ∧ μ 3 4 < 200) ∧ ((57 < μ 2 (μ 3 4) → K v1 μ) ∧ (μ 2 (μ 3 4) ≤ 57 → (¬ v1 = (-1) → z_I (10 * (min v1 7)) ∧ ((μ 3 2 = 2) ∧ (((0 : Int) ≤ μ 3 4 ∧ μ 3 4 < 200) ∧ (z_I ((10 * (min v1 7)) + (μ 2 (μ 3 4))) ∧ (z_I (((10 * (min v1 7)) + (μ 2 (μ 3 4))) - 48) ∧ (z_I ((μ 3 4) + 1) ∧ (z_ri m_X4_passNumber 2 [some (2, 3), some (0, ((10 * (min v1 7)) + (μ 2 (μ 3 4))) - 48), none] (z_st μ 3 4 ((μ 3 4) + 1)) (d + 1) K))))))) ∧ (v1 = (-1) → (μ 3 2 = 2) ∧ (((0 : Int) ≤ μ 3 4 ∧ μ 3 4 < 200) ∧ (z_I (0 + (μ 2 (μ 3 4))) ∧ (z_I ((0 + (μ 2 (μ 3 4))) - 48) ∧ (z_I ((μ 3 4) + 1) ∧ (z_ri m_X4_passNumber 2 [some (2, 3), some (0, (0 + (μ 2 (μ 3 4))) - 48), none] (z_st μ 3 4 ((μ 3 4) + 1)) (d + 1) K)))))))))))))) : z_ri m_X4_passNumber 2 [some (2, 3), some (0, v1), none] μ (d + 1) K := by
  show z_R m_X4_passNumber 2 [some (2, 3), some (0, v1), none] [] z_n μ (d + 1) _
  refine z_aload_n dX4_passNumber_2 rfl ?_
  refine n_getf (ji := 4) (t := 0) dX4_passNumber_3 zf_X4_25 k_3 rfl (by decide) rfl ?_
  refine z_aload_n dX4_passNumber_6 rfl ?_
  refine n_getf (ji := 3) (t := 0) dX4_passNumber_7 zf_X4_22 k_3 rfl (by decide) rfl ?_
  refine z_icmp_ge (tgt := 88) dX4_passNumber_10 (by decide) (fun q1 => ?_) (fun q2 => ?_)
  · refine z_iload_n dX4_passNumber_88 rfl ?_
    exact z_ireturn dX4_passNumber_89 rfl rfl ⟨_, rfl, (h.1 q1)⟩
  · refine z_aload_n dX4_passNumber_13 rfl ?_
    refine n_getf (ji := 2) (t := 2) dX4_passNumber_14 zf_X4_19 k_3 rfl (by decide) rfl ?_
    rw [(h.2 q2).1]
    refine z_aload_n dX4_passNumber_17 rfl ?_
    refine n_getf (ji := 4) (t := 0) dX4_passNumber_18 zf_X4_25 k_3 rfl (by decide) rfl ?_
    refine n_iald dX4_passNumber_21 k_2 (h.2 q2).2.1 ?_
    refine z_bipush dX4_passNumber_22 (by decide) ?_
    refine z_icmp_lt (tgt := 88) dX4_passNumber_24 (by decide) (fun q3 => ?_) (fun q4 => ?_)
    · refine z_iload_n dX4_passNumber_88 rfl ?_
      exact z_ireturn dX4_passNumber_89 rfl rfl ⟨_, rfl, ((h.2 q2).2.2.1 q3)⟩
    · refine z_aload_n dX4_passNumber_27 rfl ?_
      refine n_getf (ji := 2) (t := 2) dX4_passNumber_28 zf_X4_19 k_3 rfl (by decide) rfl ?_
      rw [((h.2 q2).2.2.2 q4).1]
      refine z_aload_n dX4_passNumber_31 rfl ?_
      refine n_getf (ji := 4) (t := 0) dX4_passNumber_32 zf_X4_25 k_3 rfl (by decide) rfl ?_
      refine n_iald dX4_passNumber_35 k_2 ((h.2 q2).2.2.2 q4).2.1 ?_
      refine z_bipush dX4_passNumber_36 (by decide) ?_
      refine z_icmp_gt (tgt := 88) dX4_passNumber_38 (by decide) (fun q5 => ?_) (fun q6 => ?_)
      · refine z_iload_n dX4_passNumber_88 rfl ?_
        exact z_ireturn dX4_passNumber_89 rfl rfl ⟨_, rfl, (((h.2 q2).2.2.2 q4).2.2.1 q5)⟩
      · refine z_iload_n dX4_passNumber_41 rfl ?_
        refine z_iconst dX4_passNumber_42 ⟨by decide, by decide⟩ ?_
        refine z_icmp_ne (tgt := 50) dX4_passNumber_43 (by decide) (fun q7 => ?_) (fun q8 => ?_)
        · refine z_iload_n dX4_passNumber_50 rfl ?_
          refine z_bipush dX4_passNumber_51 (by decide) ?_
          refine z_mmin dX4_passNumber_53 zq_591 zq_592 zq_133 zq_593 (Nat.le_of_ble_eq_true rfl) ?_
          refine n_istore_n (lo' := [some (2, 3), some (0, v1), some (0, min v1 7)]) dX4_passNumber_56 ⟨Nat.le_of_ble_eq_true rfl, Nat.le_of_ble_eq_true rfl⟩ rfl ?_
          refine z_bipush dX4_passNumber_57 (by decide) ?_
          refine z_iload_n dX4_passNumber_59 rfl ?_
          refine z_imul dX4_passNumber_60 ((((h.2 q2).2.2.2 q4).2.2.2 q6).1 q7).1 ?_
          refine z_aload_n dX4_passNumber_61 rfl ?_
          refine n_getf (ji := 2) (t := 2) dX4_passNumber_62 zf_X4_19 k_3 rfl (by decide) rfl ?_
          rw [((((h.2 q2).2.2.2 q4).2.2.2 q6).1 q7).2.1]
          refine z_aload_n dX4_passNumber_65 rfl ?_
          refine n_getf (ji := 4) (t := 0) dX4_passNumber_66 zf_X4_25 k_3 rfl (by decide) rfl ?_
          refine n_iald dX4_passNumber_69 k_2 ((((h.2 q2).2.2.2 q4).2.2.2 q6).1 q7).2.2.1 ?_
          refine z_iadd dX4_passNumber_70 ((((h.2 q2).2.2.2 q4).2.2.2 q6).1 q7).2.2.2.1 ?_
          refine z_bipush dX4_passNumber_71 (by decide) ?_
          refine z_isub dX4_passNumber_73 ((((h.2 q2).2.2.2 q4).2.2.2 q6).1 q7).2.2.2.2.1 ?_
          refine n_istore_n (lo' := [some (2, 3), some (0, ((10 * (min v1 7)) + (μ 2 (μ 3 4))) - 48), some (0, min v1 7)]) dX4_passNumber_74 ⟨Nat.le_of_ble_eq_true rfl, Nat.le_of_ble_eq_true rfl⟩ rfl ?_
          refine z_aload_n dX4_passNumber_75 rfl ?_
          refine z_dup dX4_passNumber_76 rfl ?_
          refine n_getf (ji := 4) (t := 0) dX4_passNumber_77 zf_X4_25 k_3 rfl (by decide) rfl ?_
          refine z_iconst dX4_passNumber_80 ⟨by decide, by decide⟩ ?_
          refine z_iadd dX4_passNumber_81 ((((h.2 q2).2.2.2 q4).2.2.2 q6).1 q7).2.2.2.2.2.1 ?_
          refine n_putI (ji := 4) dX4_passNumber_82 zf_X4_25 k_3 rfl (by decide) rfl ?_
          refine z_goto (tgt := 2) dX4_passNumber_85 (by decide) ?_
          refine z_drop [some (2, 3), some (0, ((10 * (min v1 7)) + (μ 2 (μ 3 4))) - 48), none] ⟨rfl, rfl, trivial⟩ ?_
          exact ((((h.2 q2).2.2.2 q4).2.2.2 q6).1 q7).2.2.2.2.2.2
        · refine z_iconst dX4_passNumber_46 ⟨by decide, by decide⟩ ?_
          refine z_goto (tgt := 56) dX4_passNumber_47 (by decide) ?_
          refine n_istore_n (lo' := [some (2, 3), some (0, v1), some (0, 0)]) dX4_passNumber_56 ⟨Nat.le_of_ble_eq_true rfl, Nat.le_of_ble_eq_true rfl⟩ rfl ?_
          refine z_bipush dX4_passNumber_57 (by decide) ?_
          refine z_iload_n dX4_passNumber_59 rfl ?_
          refine z_imul dX4_passNumber_60 ⟨by decide, by decide⟩ ?_
          refine z_eqv (x := 10 * 0) (y := 0) rfl ?_
          refine z_aload_n dX4_passNumber_61 rfl ?_
          refine n_getf (ji := 2) (t := 2) dX4_passNumber_62 zf_X4_19 k_3 rfl (by decide) rfl ?_
          rw [((((h.2 q2).2.2.2 q4).2.2.2 q6).2 q8).1]
          refine z_aload_n dX4_passNumber_65 rfl ?_
          refine n_getf (ji := 4) (t := 0) dX4_passNumber_66 zf_X4_25 k_3 rfl (by decide) rfl ?_
          refine n_iald dX4_passNumber_69 k_2 ((((h.2 q2).2.2.2 q4).2.2.2 q6).2 q8).2.1 ?_
          refine z_iadd dX4_passNumber_70 ((((h.2 q2).2.2.2 q4).2.2.2 q6).2 q8).2.2.1 ?_
          refine z_bipush dX4_passNumber_71 (by decide) ?_
          refine z_isub dX4_passNumber_73 ((((h.2 q2).2.2.2 q4).2.2.2 q6).2 q8).2.2.2.1 ?_
          refine n_istore_n (lo' := [some (2, 3), some (0, (0 + (μ 2 (μ 3 4))) - 48), some (0, 0)]) dX4_passNumber_74 ⟨Nat.le_of_ble_eq_true rfl, Nat.le_of_ble_eq_true rfl⟩ rfl ?_
          refine z_aload_n dX4_passNumber_75 rfl ?_
          refine z_dup dX4_passNumber_76 rfl ?_
          refine n_getf (ji := 4) (t := 0) dX4_passNumber_77 zf_X4_25 k_3 rfl (by decide) rfl ?_
          refine z_iconst dX4_passNumber_80 ⟨by decide, by decide⟩ ?_
          refine z_iadd dX4_passNumber_81 ((((h.2 q2).2.2.2 q4).2.2.2 q6).2 q8).2.2.2.2.1 ?_
          refine n_putI (ji := 4) dX4_passNumber_82 zf_X4_25 k_3 rfl (by decide) rfl ?_
          refine z_goto (tgt := 2) dX4_passNumber_85 (by decide) ?_
          refine z_drop [some (2, 3), some (0, (0 + (μ 2 (μ 3 4))) - 48), none] ⟨rfl, rfl, trivial⟩ ?_
          exact ((((h.2 q2).2.2.2 q4).2.2.2 q6).2 q8).2.2.2.2.2
set_option maxRecDepth 20000 in
theorem V_X4_canStand {a : Int}  {μ : z_Mem} {d : Nat} {K : Int → z_Mem → Prop} (h : (¬ a = 0 → z_ri m_X4_canStand 12 [some (2, 3), some (0, a), some (0, 0), some (0, 0), none] μ (d + 1) K) ∧ (a = 0 → z_ri m_X4_canStand 12 [some (2, 3), some (0, a), some (0, 1), some (0, 0), none] μ (d + 1) K)) : z_ci m_X4_canStand [(2, 3), (0, a)] μ (d + 1) K := by
  show z_R m_X4_canStand 0 [some (2, 3), some (0, a), none, none, none] [] z_n μ (d + 1) _
  refine z_iload_n dX4_canStand_0 rfl ?_
  refine z_if_ne (tgt := 8) dX4_canStand_1 (by decide) (fun q1 => ?_) (fun q2 => ?_)
  · refine z_iconst dX4_canStand_8 ⟨by decide, by decide⟩ ?_
    refine n_istore_n (lo' := [some (2, 3), some (0, a), some (0, 0), none, none]) dX4_canStand_9 ⟨Nat.le_of_ble_eq_true rfl, Nat.le_of_ble_eq_true rfl⟩ rfl ?_
    refine z_iconst dX4_canStand_10 ⟨by decide, by decide⟩ ?_
    refine n_istore_n (lo' := [some (2, 3), some (0, a), some (0, 0), some (0, 0), none]) dX4_canStand_11 ⟨Nat.le_of_ble_eq_true rfl, Nat.le_of_ble_eq_true rfl⟩ rfl ?_
    refine z_drop [some (2, 3), some (0, a), some (0, 0), some (0, 0), none] ⟨rfl, rfl, rfl, rfl, trivial⟩ ?_
    exact (h.1 q1)
  · refine z_iconst dX4_canStand_4 ⟨by decide, by decide⟩ ?_
    refine z_goto (tgt := 9) dX4_canStand_5 (by decide) ?_
    refine n_istore_n (lo' := [some (2, 3), some (0, a), some (0, 1), none, none]) dX4_canStand_9 ⟨Nat.le_of_ble_eq_true rfl, Nat.le_of_ble_eq_true rfl⟩ rfl ?_
    refine z_iconst dX4_canStand_10 ⟨by decide, by decide⟩ ?_
    refine n_istore_n (lo' := [some (2, 3), some (0, a), some (0, 1), some (0, 0), none]) dX4_canStand_11 ⟨Nat.le_of_ble_eq_true rfl, Nat.le_of_ble_eq_true rfl⟩ rfl ?_
    refine z_drop [some (2, 3), some (0, a), some (0, 1), some (0, 0), none] ⟨rfl, rfl, rfl, rfl, trivial⟩ ?_
    exact (h.2 q2)
set_option maxRecDepth 20000 in
theorem V_X4_canStand_12 {v1 v2 v3 : Int}  {μ : z_Mem} {d : Nat} {K : Int → z_Mem → Prop} (h : (v1 ≤ v3 → (v2 = 0 ∨ v2 = 1) ∧ (K v2 μ)) ∧ (v3 < v1 → z_ci m_X4_distance [(2, 3), (0, v1), (0, v3)] μ d (fun x5 m3 => (¬ x5 = 0 → (¬ x5 = 1 → z_I (v3 + 1) ∧ (z_ri m_X4_canStand 12 [some (2, 3), some (0, v1), some (0, v2), some (0, v3 + 1), none] m3 (d + 1) K)) ∧ (x5 = 1 → z_I (v3 + 1) ∧ (z_ri m_X4_canStand 12 [some (2, 3), some (0, v1), some (0, 1), some (0, v3 + 1), none] m3 (d + 1) K))) ∧ (x5 = 0 → K 0 m3)))) : z_ri m_X4_canStand 12 [some (2, 3), some (0, v1), some (0, v2), some (0, v3), none] μ (d + 1) K := by
  show z_R m_X4_canStand 12 [some (2, 3), some (0, v1), some (0, v2), some (0, v3), none] [] z_n μ (d + 1) _
  refine z_iload_n dX4_canStand_12 rfl ?_
  refine z_iload_n dX4_canStand_13 rfl ?_
  refine z_icmp_ge (tgt := 46) dX4_canStand_14 (by decide) (fun q1 => ?_) (fun q2 => ?_)
  · refine z_iload_n dX4_canStand_46 rfl ?_
    exact z_zreturn dX4_canStand_47 rfl rfl (h.1 q1).1 ⟨_, rfl, (h.1 q1).2⟩
  · refine z_aload_n dX4_canStand_17 rfl ?_
    refine z_iload_n dX4_canStand_18 rfl ?_
    refine z_iload_n dX4_canStand_19 rfl ?_
    refine n_vI (as := [(0, v1), (0, v3)]) (rest := []) dX4_canStand_20 zm_X4_distance zs_X4_55 k_3 (by decide) rfl rfl (Nat.le_of_ble_eq_true rfl) (Nat.le_of_ble_eq_true rfl) (h.2 q2) (fun x5 m3 h4 => ?_)
    refine n_istore (lo' := [some (2, 3), some (0, v1), some (0, v2), some (0, v3), some (0, x5)]) dX4_canStand_23 ⟨Nat.le_of_ble_eq_true rfl, Nat.le_of_ble_eq_true rfl⟩ rfl ?_
    refine z_iload dX4_canStand_25 rfl ?_
    refine z_if_ne (tgt := 32) dX4_canStand_27 (by decide) (fun q6 => ?_) (fun q7 => ?_)
    · refine z_iload dX4_canStand_32 rfl ?_
      refine z_iconst dX4_canStand_34 ⟨by decide, by decide⟩ ?_
      refine z_icmp_ne (tgt := 40) dX4_canStand_35 (by decide) (fun q8 => ?_) (fun q9 => ?_)
      · refine n_iinc (lo' := [some (2, 3), some (0, v1), some (0, v2), some (0, v3 + 1), some (0, x5)]) dX4_canStand_40 rfl (by decide) ((h4.1 q6).1 q8).1 rfl ?_
        refine z_goto (tgt := 12) dX4_canStand_43 (by decide) ?_
        refine z_drop [some (2, 3), some (0, v1), some (0, v2), some (0, v3 + 1), none] ⟨rfl, rfl, rfl, rfl, trivial⟩ ?_
        exact ((h4.1 q6).1 q8).2
      · refine z_iconst dX4_canStand_38 ⟨by decide, by decide⟩ ?_
        refine n_istore_n (lo' := [some (2, 3), some (0, v1), some (0, 1), some (0, v3), some (0, x5)]) dX4_canStand_39 ⟨Nat.le_of_ble_eq_true rfl, Nat.le_of_ble_eq_true rfl⟩ rfl ?_
        refine n_iinc (lo' := [some (2, 3), some (0, v1), some (0, 1), some (0, v3 + 1), some (0, x5)]) dX4_canStand_40 rfl (by decide) ((h4.1 q6).2 q9).1 rfl ?_
        refine z_goto (tgt := 12) dX4_canStand_43 (by decide) ?_
        refine z_drop [some (2, 3), some (0, v1), some (0, 1), some (0, v3 + 1), none] ⟨rfl, rfl, rfl, rfl, trivial⟩ ?_
        exact ((h4.1 q6).2 q9).2
    · refine z_iconst dX4_canStand_30 ⟨by decide, by decide⟩ ?_
      exact z_zreturn dX4_canStand_31 rfl rfl (by decide) ⟨_, rfl, (h4.2 q7)⟩
set_option maxRecDepth 20000 in
theorem V_X4_apart {a b c : Int}  {μ : z_Mem} {d : Nat} {K : Int → z_Mem → Prop} (h : z_I (3 * a) ∧ (z_I ((3 * a) + c) ∧ (((0 : Int) ≤ (3 * a) + c ∧ (3 * a) + c < 21) ∧ (z_I (3 * b) ∧ (z_I ((3 * b) + c) ∧ (((0 : Int) ≤ (3 * b) + c ∧ (3 * b) + c < 21) ∧ (z_I ((μ 4 ((3 * a) + c)) - (μ 4 ((3 * b) + c))) ∧ (z_I (max ((μ 4 ((3 * a) + c)) - (μ 4 ((3 * b) + c))) (-((μ 4 ((3 * a) + c)) - (μ 4 ((3 * b) + c))))) ∧ (K (max ((μ 4 ((3 * a) + c)) - (μ 4 ((3 * b) + c))) (-((μ 4 ((3 * a) + c)) - (μ 4 ((3 * b) + c))))) μ))))))))) : z_ci m_X4_apart [(2, 3), (0, a), (0, b), (0, c)] μ (d + 1) K := by
  show z_R m_X4_apart 0 [some (2, 3), some (0, a), some (0, b), some (0, c)] [] z_n μ (d + 1) _
  refine z_aload_n dX4_apart_0 rfl ?_
  refine n_getp (ji := 0) dX4_apart_1 zf_X4_9 k_3 rfl (by decide) rfl p_3_0 ?_
  refine z_iconst dX4_apart_4 ⟨by decide, by decide⟩ ?_
  refine z_iload_n dX4_apart_5 rfl ?_
  refine z_imul dX4_apart_6 h.1 ?_
  refine z_iload_n dX4_apart_7 rfl ?_
  refine z_iadd dX4_apart_8 h.2.1 ?_
  refine n_iald dX4_apart_9 k_4 h.2.2.1 ?_
  refine z_aload_n dX4_apart_10 rfl ?_
  refine n_getp (ji := 0) dX4_apart_11 zf_X4_9 k_3 rfl (by decide) rfl p_3_0 ?_
  refine z_iconst dX4_apart_14 ⟨by decide, by decide⟩ ?_
  refine z_iload_n dX4_apart_15 rfl ?_
  refine z_imul dX4_apart_16 h.2.2.2.1 ?_
  refine z_iload_n dX4_apart_17 rfl ?_
  refine z_iadd dX4_apart_18 h.2.2.2.2.1 ?_
  refine n_iald dX4_apart_19 k_4 h.2.2.2.2.2.1 ?_
  refine z_isub dX4_apart_20 h.2.2.2.2.2.2.1 ?_
  refine z_mabs dX4_apart_21 zq_622 zq_623 zq_133 zq_624 (Nat.le_of_ble_eq_true rfl) h.2.2.2.2.2.2.2.1 ?_
  exact z_ireturn dX4_apart_24 rfl rfl ⟨_, rfl, h.2.2.2.2.2.2.2.2⟩
set_option maxRecDepth 20000 in
theorem V_X4_distance {a b : Int}  {μ : z_Mem} {d : Nat} {K : Int → z_Mem → Prop} (h : z_ci m_X4_apart [(2, 3), (0, a), (0, b), (0, 0)] μ d (fun x3 m1 => z_ci m_X4_apart [(2, 3), (0, a), (0, b), (0, 1)] m1 d (fun x6 m4 => z_I (x3 + x6) ∧ (z_ci m_X4_apart [(2, 3), (0, a), (0, b), (0, 2)] m4 d (fun x9 m7 => z_I ((x3 + x6) + x9) ∧ (K ((x3 + x6) + x9) m7)))))) : z_ci m_X4_distance [(2, 3), (0, a), (0, b)] μ (d + 1) K := by
  show z_R m_X4_distance 0 [some (2, 3), some (0, a), some (0, b)] [] z_n μ (d + 1) _
  refine z_aload_n dX4_distance_0 rfl ?_
  refine z_iload_n dX4_distance_1 rfl ?_
  refine z_iload_n dX4_distance_2 rfl ?_
  refine z_iconst dX4_distance_3 ⟨by decide, by decide⟩ ?_
  refine n_vI (as := [(0, a), (0, b), (0, 0)]) (rest := []) dX4_distance_4 zm_X4_apart zs_X4_62 k_3 (by decide) rfl rfl (Nat.le_of_ble_eq_true rfl) (Nat.le_of_ble_eq_true rfl) h (fun x3 m1 h2 => ?_)
  refine z_aload_n dX4_distance_7 rfl ?_
  refine z_iload_n dX4_distance_8 rfl ?_
  refine z_iload_n dX4_distance_9 rfl ?_
  refine z_iconst dX4_distance_10 ⟨by decide, by decide⟩ ?_
  refine n_vI (as := [(0, a), (0, b), (0, 1)]) (rest := [(0, x3)]) dX4_distance_11 zm_X4_apart zs_X4_62 k_3 (by decide) rfl rfl (Nat.le_of_ble_eq_true rfl) (Nat.le_of_ble_eq_true rfl) h2 (fun x6 m4 h5 => ?_)
  refine z_iadd dX4_distance_14 h5.1 ?_
  refine z_aload_n dX4_distance_15 rfl ?_
  refine z_iload_n dX4_distance_16 rfl ?_
  refine z_iload_n dX4_distance_17 rfl ?_
  refine z_iconst dX4_distance_18 ⟨by decide, by decide⟩ ?_
  refine n_vI (as := [(0, a), (0, b), (0, 2)]) (rest := [(0, x3 + x6)]) dX4_distance_19 zm_X4_apart zs_X4_62 k_3 (by decide) rfl rfl (Nat.le_of_ble_eq_true rfl) (Nat.le_of_ble_eq_true rfl) h5.2 (fun x9 m7 h8 => ?_)
  refine z_iadd dX4_distance_22 h8.1 ?_
  exact z_ireturn dX4_distance_23 rfl rfl ⟨_, rfl, h8.2⟩
set_option maxRecDepth 20000 in
theorem V_X4_isSolid  {μ : z_Mem} {d : Nat} {K : Int → z_Mem → Prop} (h : z_ri m_X4_isSolid 2 [some (2, 3), some (0, 0), none] μ (d + 1) K) : z_ci m_X4_isSolid [(2, 3)] μ (d + 1) K := by
  show z_R m_X4_isSolid 0 [some (2, 3), none, none] [] z_n μ (d + 1) _
  refine z_iconst dX4_isSolid_0 ⟨by decide, by decide⟩ ?_
  refine n_istore_n (lo' := [some (2, 3), some (0, 0), none]) dX4_isSolid_1 ⟨Nat.le_of_ble_eq_true rfl, Nat.le_of_ble_eq_true rfl⟩ rfl ?_
  refine z_drop [some (2, 3), some (0, 0), none] ⟨rfl, rfl, trivial⟩ ?_
  exact h
set_option maxRecDepth 20000 in
theorem V_X4_isSolid_2 {v1 : Int}  {μ : z_Mem} {d : Nat} {K : Int → z_Mem → Prop} (h : (μ 3 1 ≤ v1 → K 1 μ) ∧ (v1 < μ 3 1 → z_ri m_X4_isSolid 12 [some (2, 3), some (0, v1), some (0, 0)] μ (d + 1) K)) : z_ri m_X4_isSolid 2 [some (2, 3), some (0, v1), none] μ (d + 1) K := by
  show z_R m_X4_isSolid 2 [some (2, 3), some (0, v1), none] [] z_n μ (d + 1) _
  refine z_iload_n dX4_isSolid_2 rfl ?_
  refine z_aload_n dX4_isSolid_3 rfl ?_
  refine n_getf (ji := 1) (t := 0) dX4_isSolid_4 zf_X4_15 k_3 rfl (by decide) rfl ?_
  refine z_icmp_ge (tgt := 49) dX4_isSolid_7 (by decide) (fun q1 => ?_) (fun q2 => ?_)
  · refine z_iconst dX4_isSolid_49 ⟨by decide, by decide⟩ ?_
    exact z_zreturn dX4_isSolid_50 rfl rfl (by decide) ⟨_, rfl, (h.1 q1)⟩
  · refine z_iconst dX4_isSolid_10 ⟨by decide, by decide⟩ ?_
    refine n_istore_n (lo' := [some (2, 3), some (0, v1), some (0, 0)]) dX4_isSolid_11 ⟨Nat.le_of_ble_eq_true rfl, Nat.le_of_ble_eq_true rfl⟩ rfl ?_
    refine z_drop [some (2, 3), some (0, v1), some (0, 0)] ⟨rfl, rfl, rfl, trivial⟩ ?_
    exact (h.2 q2)
set_option maxRecDepth 20000 in
theorem V_X4_isSolid_12 {v1 v2 : Int}  {μ : z_Mem} {d : Nat} {K : Int → z_Mem → Prop} (h : (v1 ≤ v2 → z_I (v1 + 1) ∧ (z_ri m_X4_isSolid 2 [some (2, 3), some (0, v1 + 1), none] μ (d + 1) K)) ∧ (v2 < v1 → z_ci m_X4_shareEdge [(2, 3), (0, v1), (0, v2)] μ d (fun x5 m3 => (x5 = 0 → z_I (v2 + 1) ∧ (z_ri m_X4_isSolid 12 [some (2, 3), some (0, v1), some (0, v2 + 1)] m3 (d + 1) K)) ∧ (¬ x5 = 0 → z_ci m_X4_haveThird [(2, 3), (0, v1), (0, v2)] m3 d (fun x10 m8 => (¬ x10 = 0 → z_I (v2 + 1) ∧ (z_ri m_X4_isSolid 12 [some (2, 3), some (0, v1), some (0, v2 + 1)] m8 (d + 1) K)) ∧ (x10 = 0 → K 0 m8)))))) : z_ri m_X4_isSolid 12 [some (2, 3), some (0, v1), some (0, v2)] μ (d + 1) K := by
  show z_R m_X4_isSolid 12 [some (2, 3), some (0, v1), some (0, v2)] [] z_n μ (d + 1) _
  refine z_iload_n dX4_isSolid_12 rfl ?_
  refine z_iload_n dX4_isSolid_13 rfl ?_
  refine z_icmp_ge (tgt := 43) dX4_isSolid_14 (by decide) (fun q1 => ?_) (fun q2 => ?_)
  · refine n_iinc (lo' := [some (2, 3), some (0, v1 + 1), some (0, v2)]) dX4_isSolid_43 rfl (by decide) (h.1 q1).1 rfl ?_
    refine z_goto (tgt := 2) dX4_isSolid_46 (by decide) ?_
    refine z_drop [some (2, 3), some (0, v1 + 1), none] ⟨rfl, rfl, trivial⟩ ?_
    exact (h.1 q1).2
  · refine z_aload_n dX4_isSolid_17 rfl ?_
    refine z_iload_n dX4_isSolid_18 rfl ?_
    refine z_iload_n dX4_isSolid_19 rfl ?_
    refine n_vI (as := [(0, v1), (0, v2)]) (rest := []) dX4_isSolid_20 zm_X4_shareEdge zs_X4_66 k_3 (by decide) rfl rfl (Nat.le_of_ble_eq_true rfl) (Nat.le_of_ble_eq_true rfl) (h.2 q2) (fun x5 m3 h4 => ?_)
    refine z_if_eq (tgt := 37) dX4_isSolid_23 (by decide) (fun q6 => ?_) (fun q7 => ?_)
    · refine n_iinc (lo' := [some (2, 3), some (0, v1), some (0, v2 + 1)]) dX4_isSolid_37 rfl (by decide) (h4.1 q6).1 rfl ?_
      refine z_goto (tgt := 12) dX4_isSolid_40 (by decide) ?_
      refine z_drop [some (2, 3), some (0, v1), some (0, v2 + 1)] ⟨rfl, rfl, rfl, trivial⟩ ?_
      exact (h4.1 q6).2
    · refine z_aload_n dX4_isSolid_26 rfl ?_
      refine z_iload_n dX4_isSolid_27 rfl ?_
      refine z_iload_n dX4_isSolid_28 rfl ?_
      refine n_vI (as := [(0, v1), (0, v2)]) (rest := []) dX4_isSolid_29 zm_X4_haveThird zs_X4_70 k_3 (by decide) rfl rfl (Nat.le_of_ble_eq_true rfl) (Nat.le_of_ble_eq_true rfl) (h4.2 q7) (fun x10 m8 h9 => ?_)
      refine z_if_ne (tgt := 37) dX4_isSolid_32 (by decide) (fun q11 => ?_) (fun q12 => ?_)
      · refine n_iinc (lo' := [some (2, 3), some (0, v1), some (0, v2 + 1)]) dX4_isSolid_37 rfl (by decide) (h9.1 q11).1 rfl ?_
        refine z_goto (tgt := 12) dX4_isSolid_40 (by decide) ?_
        refine z_drop [some (2, 3), some (0, v1), some (0, v2 + 1)] ⟨rfl, rfl, rfl, trivial⟩ ?_
        exact (h9.1 q11).2
      · refine z_iconst dX4_isSolid_35 ⟨by decide, by decide⟩ ?_
        exact z_zreturn dX4_isSolid_36 rfl rfl (by decide) ⟨_, rfl, (h9.2 q12)⟩
set_option maxRecDepth 20000 in
theorem V_X4_shareEdge {a b : Int}  {μ : z_Mem} {d : Nat} {K : Int → z_Mem → Prop} (h : z_ci m_X4_distance [(2, 3), (0, a), (0, b)] μ d (fun x3 m1 => (¬ x3 = 2 → K 0 m1) ∧ (x3 = 2 → z_ci m_X4_apart [(2, 3), (0, a), (0, b), (0, 0)] m1 d (fun x8 m6 => (2 ≤ x8 → K 0 m6) ∧ (x8 < 2 → z_ci m_X4_apart [(2, 3), (0, a), (0, b), (0, 1)] m6 d (fun x13 m11 => (2 ≤ x13 → K 0 m11) ∧ (x13 < 2 → z_ci m_X4_apart [(2, 3), (0, a), (0, b), (0, 2)] m11 d (fun x18 m16 => (2 ≤ x18 → K 0 m16) ∧ (x18 < 2 → K 1 m16))))))))) : z_ci m_X4_shareEdge [(2, 3), (0, a), (0, b)] μ (d + 1) K := by
  show z_R m_X4_shareEdge 0 [some (2, 3), some (0, a), some (0, b)] [] z_n μ (d + 1) _
  refine z_aload_n dX4_shareEdge_0 rfl ?_
  refine z_iload_n dX4_shareEdge_1 rfl ?_
  refine z_iload_n dX4_shareEdge_2 rfl ?_
  refine n_vI (as := [(0, a), (0, b)]) (rest := []) dX4_shareEdge_3 zm_X4_distance zs_X4_55 k_3 (by decide) rfl rfl (Nat.le_of_ble_eq_true rfl) (Nat.le_of_ble_eq_true rfl) h (fun x3 m1 h2 => ?_)
  refine z_iconst dX4_shareEdge_6 ⟨by decide, by decide⟩ ?_
  refine z_icmp_ne (tgt := 47) dX4_shareEdge_7 (by decide) (fun q4 => ?_) (fun q5 => ?_)
  · refine z_iconst dX4_shareEdge_47 ⟨by decide, by decide⟩ ?_
    exact z_zreturn dX4_shareEdge_48 rfl rfl (by decide) ⟨_, rfl, (h2.1 q4)⟩
  · refine z_aload_n dX4_shareEdge_10 rfl ?_
    refine z_iload_n dX4_shareEdge_11 rfl ?_
    refine z_iload_n dX4_shareEdge_12 rfl ?_
    refine z_iconst dX4_shareEdge_13 ⟨by decide, by decide⟩ ?_
    refine n_vI (as := [(0, a), (0, b), (0, 0)]) (rest := []) dX4_shareEdge_14 zm_X4_apart zs_X4_62 k_3 (by decide) rfl rfl (Nat.le_of_ble_eq_true rfl) (Nat.le_of_ble_eq_true rfl) (h2.2 q5) (fun x8 m6 h7 => ?_)
    refine z_iconst dX4_shareEdge_17 ⟨by decide, by decide⟩ ?_
    refine z_icmp_ge (tgt := 47) dX4_shareEdge_18 (by decide) (fun q9 => ?_) (fun q10 => ?_)
    · refine z_iconst dX4_shareEdge_47 ⟨by decide, by decide⟩ ?_
      exact z_zreturn dX4_shareEdge_48 rfl rfl (by decide) ⟨_, rfl, (h7.1 q9)⟩
    · refine z_aload_n dX4_shareEdge_21 rfl ?_
      refine z_iload_n dX4_shareEdge_22 rfl ?_
      refine z_iload_n dX4_shareEdge_23 rfl ?_
      refine z_iconst dX4_shareEdge_24 ⟨by decide, by decide⟩ ?_
      refine n_vI (as := [(0, a), (0, b), (0, 1)]) (rest := []) dX4_shareEdge_25 zm_X4_apart zs_X4_62 k_3 (by decide) rfl rfl (Nat.le_of_ble_eq_true rfl) (Nat.le_of_ble_eq_true rfl) (h7.2 q10) (fun x13 m11 h12 => ?_)
      refine z_iconst dX4_shareEdge_28 ⟨by decide, by decide⟩ ?_
      refine z_icmp_ge (tgt := 47) dX4_shareEdge_29 (by decide) (fun q14 => ?_) (fun q15 => ?_)
      · refine z_iconst dX4_shareEdge_47 ⟨by decide, by decide⟩ ?_
        exact z_zreturn dX4_shareEdge_48 rfl rfl (by decide) ⟨_, rfl, (h12.1 q14)⟩
      · refine z_aload_n dX4_shareEdge_32 rfl ?_
        refine z_iload_n dX4_shareEdge_33 rfl ?_
        refine z_iload_n dX4_shareEdge_34 rfl ?_
        refine z_iconst dX4_shareEdge_35 ⟨by decide, by decide⟩ ?_
        refine n_vI (as := [(0, a), (0, b), (0, 2)]) (rest := []) dX4_shareEdge_36 zm_X4_apart zs_X4_62 k_3 (by decide) rfl rfl (Nat.le_of_ble_eq_true rfl) (Nat.le_of_ble_eq_true rfl) (h12.2 q15) (fun x18 m16 h17 => ?_)
        refine z_iconst dX4_shareEdge_39 ⟨by decide, by decide⟩ ?_
        refine z_icmp_ge (tgt := 47) dX4_shareEdge_40 (by decide) (fun q19 => ?_) (fun q20 => ?_)
        · refine z_iconst dX4_shareEdge_47 ⟨by decide, by decide⟩ ?_
          exact z_zreturn dX4_shareEdge_48 rfl rfl (by decide) ⟨_, rfl, (h17.1 q19)⟩
        · refine z_iconst dX4_shareEdge_43 ⟨by decide, by decide⟩ ?_
          refine z_goto (tgt := 48) dX4_shareEdge_44 (by decide) ?_
          exact z_zreturn dX4_shareEdge_48 rfl rfl (by decide) ⟨_, rfl, (h17.2 q20)⟩
set_option maxRecDepth 20000 in
theorem V_X4_haveThird {a b : Int}  {μ : z_Mem} {d : Nat} {K : Int → z_Mem → Prop} (h : z_ri m_X4_haveThird 2 [some (2, 3), some (0, a), some (0, b), some (0, 0)] μ (d + 1) K) : z_ci m_X4_haveThird [(2, 3), (0, a), (0, b)] μ (d + 1) K := by
  show z_R m_X4_haveThird 0 [some (2, 3), some (0, a), some (0, b), none] [] z_n μ (d + 1) _
  refine z_iconst dX4_haveThird_0 ⟨by decide, by decide⟩ ?_
  refine n_istore_n (lo' := [some (2, 3), some (0, a), some (0, b), some (0, 0)]) dX4_haveThird_1 ⟨Nat.le_of_ble_eq_true rfl, Nat.le_of_ble_eq_true rfl⟩ rfl ?_
  refine z_drop [some (2, 3), some (0, a), some (0, b), some (0, 0)] ⟨rfl, rfl, rfl, rfl, trivial⟩ ?_
  exact h
set_option maxRecDepth 20000 in
theorem V_X4_haveThird_2 {v1 v2 v3 : Int}  {μ : z_Mem} {d : Nat} {K : Int → z_Mem → Prop} (h : (μ 3 1 ≤ v3 → K 0 μ) ∧ (v3 < μ 3 1 → z_ci m_X4_distance [(2, 3), (0, v1), (0, v3)] μ d (fun x5 m3 => (¬ x5 = 1 → z_I (v3 + 1) ∧ (z_ri m_X4_haveThird 2 [some (2, 3), some (0, v1), some (0, v2), some (0, v3 + 1)] m3 (d + 1) K)) ∧ (x5 = 1 → z_ci m_X4_distance [(2, 3), (0, v3), (0, v2)] m3 d (fun x10 m8 => (¬ x10 = 1 → z_I (v3 + 1) ∧ (z_ri m_X4_haveThird 2 [some (2, 3), some (0, v1), some (0, v2), some (0, v3 + 1)] m8 (d + 1) K)) ∧ (x10 = 1 → K 1 m8)))))) : z_ri m_X4_haveThird 2 [some (2, 3), some (0, v1), some (0, v2), some (0, v3)] μ (d + 1) K := by
  show z_R m_X4_haveThird 2 [some (2, 3), some (0, v1), some (0, v2), some (0, v3)] [] z_n μ (d + 1) _
  refine z_iload_n dX4_haveThird_2 rfl ?_
  refine z_aload_n dX4_haveThird_3 rfl ?_
  refine n_getf (ji := 1) (t := 0) dX4_haveThird_4 zf_X4_15 k_3 rfl (by decide) rfl ?_
  refine z_icmp_ge (tgt := 38) dX4_haveThird_7 (by decide) (fun q1 => ?_) (fun q2 => ?_)
  · refine z_iconst dX4_haveThird_38 ⟨by decide, by decide⟩ ?_
    exact z_zreturn dX4_haveThird_39 rfl rfl (by decide) ⟨_, rfl, (h.1 q1)⟩
  · refine z_aload_n dX4_haveThird_10 rfl ?_
    refine z_iload_n dX4_haveThird_11 rfl ?_
    refine z_iload_n dX4_haveThird_12 rfl ?_
    refine n_vI (as := [(0, v1), (0, v3)]) (rest := []) dX4_haveThird_13 zm_X4_distance zs_X4_55 k_3 (by decide) rfl rfl (Nat.le_of_ble_eq_true rfl) (Nat.le_of_ble_eq_true rfl) (h.2 q2) (fun x5 m3 h4 => ?_)
    refine z_iconst dX4_haveThird_16 ⟨by decide, by decide⟩ ?_
    refine z_icmp_ne (tgt := 32) dX4_haveThird_17 (by decide) (fun q6 => ?_) (fun q7 => ?_)
    · refine n_iinc (lo' := [some (2, 3), some (0, v1), some (0, v2), some (0, v3 + 1)]) dX4_haveThird_32 rfl (by decide) (h4.1 q6).1 rfl ?_
      refine z_goto (tgt := 2) dX4_haveThird_35 (by decide) ?_
      refine z_drop [some (2, 3), some (0, v1), some (0, v2), some (0, v3 + 1)] ⟨rfl, rfl, rfl, rfl, trivial⟩ ?_
      exact (h4.1 q6).2
    · refine z_aload_n dX4_haveThird_20 rfl ?_
      refine z_iload_n dX4_haveThird_21 rfl ?_
      refine z_iload_n dX4_haveThird_22 rfl ?_
      refine n_vI (as := [(0, v3), (0, v2)]) (rest := []) dX4_haveThird_23 zm_X4_distance zs_X4_55 k_3 (by decide) rfl rfl (Nat.le_of_ble_eq_true rfl) (Nat.le_of_ble_eq_true rfl) (h4.2 q7) (fun x10 m8 h9 => ?_)
      refine z_iconst dX4_haveThird_26 ⟨by decide, by decide⟩ ?_
      refine z_icmp_ne (tgt := 32) dX4_haveThird_27 (by decide) (fun q11 => ?_) (fun q12 => ?_)
      · refine n_iinc (lo' := [some (2, 3), some (0, v1), some (0, v2), some (0, v3 + 1)]) dX4_haveThird_32 rfl (by decide) (h9.1 q11).1 rfl ?_
        refine z_goto (tgt := 2) dX4_haveThird_35 (by decide) ?_
        refine z_drop [some (2, 3), some (0, v1), some (0, v2), some (0, v3 + 1)] ⟨rfl, rfl, rfl, rfl, trivial⟩ ?_
        exact (h9.1 q11).2
      · refine z_iconst dX4_haveThird_30 ⟨by decide, by decide⟩ ?_
        exact z_zreturn dX4_haveThird_31 rfl rfl (by decide) ⟨_, rfl, (h9.2 q12)⟩
set_option maxRecDepth 20000 in
theorem V_X5_find {a : Int}  {μ : z_Mem} {d : Nat} {K : Int → z_Mem → Prop} (h : z_cn m_X6_putRoot [(2, 32), (0, a), (0, (z_st (z_st (z_st μ 31 0 0) 31 4 0) 31 3 0) 6 2)] (z_st (z_st (z_st μ 31 0 0) 31 4 0) 31 3 0) d (fun m1 => z_ri m_X5_find 29 [some (2, 31), some (2, 6), none, some (0, 1), none] m1 (d + 1) K)) : z_ci m_X5_find [(2, 31), (2, 6), (0, a)] μ (d + 1) K := by
  show z_R m_X5_find 0 [some (2, 31), some (2, 6), some (0, a), none, none] [] z_n μ (d + 1) _
  refine z_aload_n dX5_find_0 rfl ?_
  refine z_lconst0 dX5_find_1 ?_
  refine n_putJ (ji := 0) dX5_find_2 zf_X5_9 k_31 rfl (by decide) rfl ?_
  refine z_aload_n dX5_find_5 rfl ?_
  refine z_lconst0 dX5_find_6 ?_
  refine n_putJ (ji := 4) dX5_find_7 zf_X5_30 k_31 rfl (by decide) rfl ?_
  refine z_aload_n dX5_find_10 rfl ?_
  refine z_iconst dX5_find_11 ⟨by decide, by decide⟩ ?_
  refine n_putI (ji := 3) dX5_find_12 zf_X5_26 k_31 rfl (by decide) rfl ?_
  refine z_aload_n dX5_find_15 rfl ?_
  refine n_getp (ji := 1) dX5_find_16 zf_X5_18 k_31 rfl (by decide) rfl p_31_1 ?_
  refine z_iload_n dX5_find_19 rfl ?_
  refine z_aload_n dX5_find_20 rfl ?_
  refine n_getf (ji := 2) (t := 0) dX5_find_21 zf_X5_33 k_6 rfl (by decide) rfl ?_
  refine n_vN (as := [(0, a), (0, (z_st (z_st (z_st μ 31 0 0) 31 4 0) 31 3 0) 6 2)]) (rest := []) dX5_find_24 zm_X6_putRoot zs_X5_38 k_32 (by decide) rfl rfl (Nat.le_of_ble_eq_true rfl) (Nat.le_of_ble_eq_true rfl) h (fun m1 h2 => ?_)
  refine z_iconst dX5_find_27 ⟨by decide, by decide⟩ ?_
  refine n_istore_n (lo' := [some (2, 31), some (2, 6), some (0, a), some (0, 1), none]) dX5_find_28 ⟨Nat.le_of_ble_eq_true rfl, Nat.le_of_ble_eq_true rfl⟩ rfl ?_
  refine z_drop [some (2, 31), some (2, 6), none, some (0, 1), none] ⟨rfl, rfl, rfl, trivial⟩ ?_
  exact h2
set_option maxRecDepth 20000 in
theorem V_X5_find_29 {v3 : Int}  {μ : z_Mem} {d : Nat} {K : Int → z_Mem → Prop} (h : (3000 < v3 → K (-3) μ) ∧ (v3 ≤ 3000 → (¬ μ 32 6 = μ 6 2 → z_ci m_X5_leastEdge [(2, 31), (2, 6)] μ d (fun x7 m5 => (x7 = (-1) → z_ci m_X5_turnBack [(2, 31)] m5 d (fun x12 m10 => (¬ x12 = 0 → z_I (v3 + 1) ∧ (z_ri m_X5_find 29 [some (2, 31), some (2, 6), none, some (0, v3 + 1), none] m10 (d + 1) K)) ∧ (x12 = 0 → K (-2) m10))) ∧ (¬ x7 = (-1) → z_cn m_X5_tell [(2, 31), (2, 6), (0, x7)] m5 d (fun m15 => z_I (v3 + 1) ∧ (z_ri m_X5_find 29 [some (2, 31), some (2, 6), none, some (0, v3 + 1), none] m15 (d + 1) K))))) ∧ (μ 32 6 = μ 6 2 → K v3 μ))) : z_ri m_X5_find 29 [some (2, 31), some (2, 6), none, some (0, v3), none] μ (d + 1) K := by
  show z_R m_X5_find 29 [some (2, 31), some (2, 6), none, some (0, v3), none] [] z_n μ (d + 1) _
  refine z_iload_n dX5_find_29 rfl ?_
  refine z_sipush dX5_find_30 (by decide) ?_
  refine z_icmp_gt (tgt := 91) dX5_find_33 (by decide) (fun q1 => ?_) (fun q2 => ?_)
  · refine z_bipush dX5_find_91 (by decide) ?_
    exact z_ireturn dX5_find_93 rfl rfl ⟨_, rfl, (h.1 q1)⟩
  · refine z_aload_n dX5_find_36 rfl ?_
    refine n_getp (ji := 1) dX5_find_37 zf_X5_18 k_31 rfl (by decide) rfl p_31_1 ?_
    refine n_getf (ji := 6) (t := 0) dX5_find_40 zf_X5_42 k_32 rfl (by decide) rfl ?_
    refine z_aload_n dX5_find_43 rfl ?_
    refine n_getf (ji := 2) (t := 0) dX5_find_44 zf_X5_33 k_6 rfl (by decide) rfl ?_
    refine z_icmp_ne (tgt := 52) dX5_find_47 (by decide) (fun q3 => ?_) (fun q4 => ?_)
    · refine z_aload_n dX5_find_52 rfl ?_
      refine z_aload_n dX5_find_53 rfl ?_
      refine n_vI (as := [(2, 6)]) (rest := []) dX5_find_54 zm_X5_leastEdge zs_X5_45 k_31 (by decide) rfl rfl (Nat.le_of_ble_eq_true rfl) (Nat.le_of_ble_eq_true rfl) ((h.2 q2).1 q3) (fun x7 m5 h6 => ?_)
      refine n_istore (lo' := [some (2, 31), some (2, 6), none, some (0, v3), some (0, x7)]) dX5_find_57 ⟨Nat.le_of_ble_eq_true rfl, Nat.le_of_ble_eq_true rfl⟩ rfl ?_
      refine z_iload dX5_find_59 rfl ?_
      refine z_iconst dX5_find_61 ⟨by decide, by decide⟩ ?_
      refine z_icmp_eq (tgt := 75) dX5_find_62 (by decide) (fun q8 => ?_) (fun q9 => ?_)
      · refine z_aload_n dX5_find_75 rfl ?_
        refine n_vI (as := []) (rest := []) dX5_find_76 zm_X5_turnBack zs_X5_53 k_31 (by decide) rfl rfl (Nat.le_of_ble_eq_true rfl) (Nat.le_of_ble_eq_true rfl) (h6.1 q8) (fun x12 m10 h11 => ?_)
        refine z_if_ne (tgt := 85) dX5_find_79 (by decide) (fun q13 => ?_) (fun q14 => ?_)
        · refine n_iinc (lo' := [some (2, 31), some (2, 6), none, some (0, v3 + 1), some (0, x7)]) dX5_find_85 rfl (by decide) (h11.1 q13).1 rfl ?_
          refine z_goto (tgt := 29) dX5_find_88 (by decide) ?_
          refine z_drop [some (2, 31), some (2, 6), none, some (0, v3 + 1), none] ⟨rfl, rfl, rfl, trivial⟩ ?_
          exact (h11.1 q13).2
        · refine z_bipush dX5_find_82 (by decide) ?_
          exact z_ireturn dX5_find_84 rfl rfl ⟨_, rfl, (h11.2 q14)⟩
      · refine z_aload_n dX5_find_65 rfl ?_
        refine z_aload_n dX5_find_66 rfl ?_
        refine z_iload dX5_find_67 rfl ?_
        refine n_vN (as := [(2, 6), (0, x7)]) (rest := []) dX5_find_69 zm_X5_tell zs_X5_49 k_31 (by decide) rfl rfl (Nat.le_of_ble_eq_true rfl) (Nat.le_of_ble_eq_true rfl) (h6.2 q9) (fun m15 h16 => ?_)
        refine z_goto (tgt := 85) dX5_find_72 (by decide) ?_
        refine n_iinc (lo' := [some (2, 31), some (2, 6), none, some (0, v3 + 1), some (0, x7)]) dX5_find_85 rfl (by decide) h16.1 rfl ?_
        refine z_goto (tgt := 29) dX5_find_88 (by decide) ?_
        refine z_drop [some (2, 31), some (2, 6), none, some (0, v3 + 1), none] ⟨rfl, rfl, rfl, trivial⟩ ?_
        exact h16.2
    · refine z_iload_n dX5_find_50 rfl ?_
      exact z_ireturn dX5_find_51 rfl rfl ⟨_, rfl, ((h.2 q2).2 q4)⟩
set_option maxRecDepth 20000 in
theorem V_X5_leastEdge  {μ : z_Mem} {d : Nat} {K : Int → z_Mem → Prop} (h : z_ri m_X5_leastEdge 2 [some (2, 31), some (2, 6), some (0, 0)] μ (d + 1) K) : z_ci m_X5_leastEdge [(2, 31), (2, 6)] μ (d + 1) K := by
  show z_R m_X5_leastEdge 0 [some (2, 31), some (2, 6), none] [] z_n μ (d + 1) _
  refine z_iconst dX5_leastEdge_0 ⟨by decide, by decide⟩ ?_
  refine n_istore_n (lo' := [some (2, 31), some (2, 6), some (0, 0)]) dX5_leastEdge_1 ⟨Nat.le_of_ble_eq_true rfl, Nat.le_of_ble_eq_true rfl⟩ rfl ?_
  refine z_drop [some (2, 31), some (2, 6), some (0, 0)] ⟨rfl, rfl, rfl, trivial⟩ ?_
  exact h
set_option maxRecDepth 20000 in
theorem V_X5_leastEdge_2 {v2 : Int}  {μ : z_Mem} {d : Nat} {K : Int → z_Mem → Prop} (h : (μ 6 8 ≤ v2 → K (-1) μ) ∧ (v2 < μ 6 8 → ((0 : Int) ≤ v2 ∧ v2 < 64) ∧ (((0 : Int) ≤ μ 31 4) ∧ (((0 : Int) ≤ (μ 31 4) / 2 ^ (v2 : Int).toNat ∧ (0 : Int) ≤ 1) ∧ ((¬ (((((μ 31 4) / 2 ^ (v2 : Int).toNat : Int).toNat &&& (1 : Int).toNat : Nat)) : Int) = 0 → z_I (v2 + 1) ∧ (z_ri m_X5_leastEdge 2 [some (2, 31), some (2, 6), some (0, v2 + 1)] μ (d + 1) K)) ∧ ((((((μ 31 4) / 2 ^ (v2 : Int).toNat : Int).toNat &&& (1 : Int).toNat : Nat)) : Int) = 0 → z_ci m_X9_faceOf [(2, 6), (0, v2), (0, 0)] μ d (fun x7 m5 => z_ci m_X6_holds [(2, 32), (0, x7)] m5 d (fun x10 m8 => z_ci m_X9_faceOf [(2, 6), (0, v2), (0, 1)] m8 d (fun x13 m11 => z_ci m_X6_holds [(2, 32), (0, x13)] m11 d (fun x16 m14 => (x10 = x16 → z_I (v2 + 1) ∧ (z_ri m_X5_leastEdge 2 [some (2, 31), some (2, 6), some (0, v2 + 1)] m14 (d + 1) K)) ∧ (¬ x10 = x16 → K v2 m14))))))))))) : z_ri m_X5_leastEdge 2 [some (2, 31), some (2, 6), some (0, v2)] μ (d + 1) K := by
  show z_R m_X5_leastEdge 2 [some (2, 31), some (2, 6), some (0, v2)] [] z_n μ (d + 1) _
  refine z_iload_n dX5_leastEdge_2 rfl ?_
  refine z_aload_n dX5_leastEdge_3 rfl ?_
  refine n_getf (ji := 8) (t := 0) dX5_leastEdge_4 zf_X5_57 k_6 rfl (by decide) rfl ?_
  refine z_icmp_ge (tgt := 60) dX5_leastEdge_7 (by decide) (fun q1 => ?_) (fun q2 => ?_)
  · refine z_iconst dX5_leastEdge_60 ⟨by decide, by decide⟩ ?_
    exact z_ireturn dX5_leastEdge_61 rfl rfl ⟨_, rfl, (h.1 q1)⟩
  · refine z_aload_n dX5_leastEdge_10 rfl ?_
    refine n_getf (ji := 4) (t := 1) dX5_leastEdge_11 zf_X5_30 k_31 rfl (by decide) rfl ?_
    refine z_iload_n dX5_leastEdge_14 rfl ?_
    refine n_lushr dX5_leastEdge_15 (h.2 q2).1 (h.2 q2).2.1 ?_
    refine z_lconst1 dX5_leastEdge_16 ?_
    refine z_land dX5_leastEdge_17 (h.2 q2).2.2.1.1 (h.2 q2).2.2.1.2 ?_
    refine z_lconst0 dX5_leastEdge_18 ?_
    refine z_lcmp_ne (tgt := 54) dX5_leastEdge_19 dX5_leastEdge_20 (by decide) (fun q3 => ?_) (fun q4 => ?_)
    · refine n_iinc (lo' := [some (2, 31), some (2, 6), some (0, v2 + 1)]) dX5_leastEdge_54 rfl (by decide) ((h.2 q2).2.2.2.1 q3).1 rfl ?_
      refine z_goto (tgt := 2) dX5_leastEdge_57 (by decide) ?_
      refine z_drop [some (2, 31), some (2, 6), some (0, v2 + 1)] ⟨rfl, rfl, rfl, trivial⟩ ?_
      exact ((h.2 q2).2.2.2.1 q3).2
    · refine z_aload_n dX5_leastEdge_23 rfl ?_
      refine n_getp (ji := 1) dX5_leastEdge_24 zf_X5_18 k_31 rfl (by decide) rfl p_31_1 ?_
      refine z_aload_n dX5_leastEdge_27 rfl ?_
      refine z_iload_n dX5_leastEdge_28 rfl ?_
      refine z_iconst dX5_leastEdge_29 ⟨by decide, by decide⟩ ?_
      refine n_vI (as := [(0, v2), (0, 0)]) (rest := [(2, 32)]) dX5_leastEdge_30 zm_X9_faceOf zs_X5_60 k_6 (by decide) rfl rfl (Nat.le_of_ble_eq_true rfl) (Nat.le_of_ble_eq_true rfl) ((h.2 q2).2.2.2.2 q4) (fun x7 m5 h6 => ?_)
      refine n_vI (as := [(0, x7)]) (rest := []) dX5_leastEdge_33 zm_X6_holds zs_X5_64 k_32 (by decide) rfl rfl (Nat.le_of_ble_eq_true rfl) (Nat.le_of_ble_eq_true rfl) h6 (fun x10 m8 h9 => ?_)
      refine z_aload_n dX5_leastEdge_36 rfl ?_
      refine n_getp (ji := 1) dX5_leastEdge_37 zf_X5_18 k_31 rfl (by decide) rfl p_31_1 ?_
      refine z_aload_n dX5_leastEdge_40 rfl ?_
      refine z_iload_n dX5_leastEdge_41 rfl ?_
      refine z_iconst dX5_leastEdge_42 ⟨by decide, by decide⟩ ?_
      refine n_vI (as := [(0, v2), (0, 1)]) (rest := [(2, 32), (0, x10)]) dX5_leastEdge_43 zm_X9_faceOf zs_X5_60 k_6 (by decide) rfl rfl (Nat.le_of_ble_eq_true rfl) (Nat.le_of_ble_eq_true rfl) h9 (fun x13 m11 h12 => ?_)
      refine n_vI (as := [(0, x13)]) (rest := [(0, x10)]) dX5_leastEdge_46 zm_X6_holds zs_X5_64 k_32 (by decide) rfl rfl (Nat.le_of_ble_eq_true rfl) (Nat.le_of_ble_eq_true rfl) h12 (fun x16 m14 h15 => ?_)
      refine z_icmp_eq (tgt := 54) dX5_leastEdge_49 (by decide) (fun q17 => ?_) (fun q18 => ?_)
      · refine n_iinc (lo' := [some (2, 31), some (2, 6), some (0, v2 + 1)]) dX5_leastEdge_54 rfl (by decide) (h15.1 q17).1 rfl ?_
        refine z_goto (tgt := 2) dX5_leastEdge_57 (by decide) ?_
        refine z_drop [some (2, 31), some (2, 6), some (0, v2 + 1)] ⟨rfl, rfl, rfl, trivial⟩ ?_
        exact (h15.1 q17).2
      · refine z_iload_n dX5_leastEdge_52 rfl ?_
        exact z_ireturn dX5_leastEdge_53 rfl rfl ⟨_, rfl, (h15.2 q18)⟩
set_option maxRecDepth 20000 in
theorem V_X5_tell {a : Int}  {μ : z_Mem} {d : Nat} {K : z_Mem → Prop} (h : z_ci m_X9_faceOf [(2, 6), (0, a), (0, 0)] μ d (fun x3 m1 => z_ci m_X6_holds [(2, 32), (0, x3)] m1 d (fun x6 m4 => z_I (2 * a) ∧ ((x6 = 0 → z_I ((2 * a) + 1) ∧ (((0 : Int) ≤ (2 * a) + 1 ∧ (2 * a) + 1 < 120) ∧ (((0 : Int) ≤ a ∧ a < 63) ∧ (((0 : Int) ≤ m4 31 4 ∧ (0 : Int) ≤ (2 : Int) ^ (a : Int).toNat) ∧ ((60 ≤ (z_st m4 31 4 ((((m4 31 4 : Int).toNat ||| ((2 : Int) ^ (a : Int).toNat : Int).toNat : Nat)) : Int)) 31 3 → z_ci m_X6_xBehind [(2, 32), (0, m4 13 ((2 * a) + 1))] (z_st m4 31 4 ((((m4 31 4 : Int).toNat ||| ((2 : Int) ^ (a : Int).toNat : Int).toNat : Nat)) : Int)) d (fun x13 m11 => z_ci m_X6_yBehind [(2, 32), (0, m4 13 ((2 * a) + 1))] m11 d (fun x16 m14 => z_ci m_X6_isTaken [(2, 32), (0, x13), (0, x16)] m14 d (fun x19 m17 => (¬ x19 = 0 → K m17) ∧ (x19 = 0 → ((0 : Int) ≤ a ∧ a < 63) ∧ (((0 : Int) ≤ m17 31 0 ∧ (0 : Int) ≤ (2 : Int) ^ (a : Int).toNat) ∧ (((0 : Int) ≤ m4 13 ((2 * a) + 1) ∧ m4 13 ((2 * a) + 1) < 120) ∧ (z_cn m_X6_putBehind [(2, 32), (0, m4 13 ((2 * a) + 1)), (0, (z_st m17 31 0 ((((m17 31 0 : Int).toNat ||| ((2 : Int) ^ (a : Int).toNat : Int).toNat : Nat)) : Int)) 11 (m4 13 ((2 * a) + 1)))] (z_st m17 31 0 ((((m17 31 0 : Int).toNat ||| ((2 : Int) ^ (a : Int).toNat : Int).toNat : Nat)) : Int)) d (fun m22 => K m22))))))))) ∧ ((z_st m4 31 4 ((((m4 31 4 : Int).toNat ||| ((2 : Int) ^ (a : Int).toNat : Int).toNat : Nat)) : Int)) 31 3 < 60 → ((0 : Int) ≤ (z_st m4 31 4 ((((m4 31 4 : Int).toNat ||| ((2 : Int) ^ (a : Int).toNat : Int).toNat : Nat)) : Int)) 31 3 ∧ (z_st m4 31 4 ((((m4 31 4 : Int).toNat ||| ((2 : Int) ^ (a : Int).toNat : Int).toNat : Nat)) : Int)) 31 3 < 60) ∧ (z_I (((z_st (z_st m4 31 4 ((((m4 31 4 : Int).toNat ||| ((2 : Int) ^ (a : Int).toNat : Int).toNat : Nat)) : Int)) 38 ((z_st m4 31 4 ((((m4 31 4 : Int).toNat ||| ((2 : Int) ^ (a : Int).toNat : Int).toNat : Nat)) : Int)) 31 3) a) 31 3) + 1) ∧ (z_ci m_X6_xBehind [(2, 32), (0, m4 13 ((2 * a) + 1))] (z_st (z_st (z_st m4 31 4 ((((m4 31 4 : Int).toNat ||| ((2 : Int) ^ (a : Int).toNat : Int).toNat : Nat)) : Int)) 38 ((z_st m4 31 4 ((((m4 31 4 : Int).toNat ||| ((2 : Int) ^ (a : Int).toNat : Int).toNat : Nat)) : Int)) 31 3) a) 31 3 (((z_st (z_st m4 31 4 ((((m4 31 4 : Int).toNat ||| ((2 : Int) ^ (a : Int).toNat : Int).toNat : Nat)) : Int)) 38 ((z_st m4 31 4 ((((m4 31 4 : Int).toNat ||| ((2 : Int) ^ (a : Int).toNat : Int).toNat : Nat)) : Int)) 31 3) a) 31 3) + 1)) d (fun x26 m24 => z_ci m_X6_yBehind [(2, 32), (0, m4 13 ((2 * a) + 1))] m24 d (fun x29 m27 => z_ci m_X6_isTaken [(2, 32), (0, x26), (0, x29)] m27 d (fun x32 m30 => (¬ x32 = 0 → K m30) ∧ (x32 = 0 → ((0 : Int) ≤ a ∧ a < 63) ∧ (((0 : Int) ≤ m30 31 0 ∧ (0 : Int) ≤ (2 : Int) ^ (a : Int).toNat) ∧ (((0 : Int) ≤ m4 13 ((2 * a) + 1) ∧ m4 13 ((2 * a) + 1) < 120) ∧ (z_cn m_X6_putBehind [(2, 32), (0, m4 13 ((2 * a) + 1)), (0, (z_st m30 31 0 ((((m30 31 0 : Int).toNat ||| ((2 : Int) ^ (a : Int).toNat : Int).toNat : Nat)) : Int)) 11 (m4 13 ((2 * a) + 1)))] (z_st m30 31 0 ((((m30 31 0 : Int).toNat ||| ((2 : Int) ^ (a : Int).toNat : Int).toNat : Nat)) : Int)) d (fun m35 => K m35)))))))))))))))) ∧ (¬ x6 = 0 → z_I ((2 * a) + 0) ∧ (((0 : Int) ≤ (2 * a) + 0 ∧ (2 * a) + 0 < 120) ∧ (((0 : Int) ≤ a ∧ a < 63) ∧ (((0 : Int) ≤ m4 31 4 ∧ (0 : Int) ≤ (2 : Int) ^ (a : Int).toNat) ∧ ((60 ≤ (z_st m4 31 4 ((((m4 31 4 : Int).toNat ||| ((2 : Int) ^ (a : Int).toNat : Int).toNat : Nat)) : Int)) 31 3 → z_ci m_X6_xBehind [(2, 32), (0, m4 13 ((2 * a) + 0))] (z_st m4 31 4 ((((m4 31 4 : Int).toNat ||| ((2 : Int) ^ (a : Int).toNat : Int).toNat : Nat)) : Int)) d (fun x41 m39 => z_ci m_X6_yBehind [(2, 32), (0, m4 13 ((2 * a) + 0))] m39 d (fun x44 m42 => z_ci m_X6_isTaken [(2, 32), (0, x41), (0, x44)] m42 d (fun x47 m45 => (¬ x47 = 0 → K m45) ∧ (x47 = 0 → ((0 : Int) ≤ a ∧ a < 63) ∧ (((0 : Int) ≤ m45 31 0 ∧ (0 : Int) ≤ (2 : Int) ^ (a : Int).toNat) ∧ (((0 : Int) ≤ m4 13 ((2 * a) + 0) ∧ m4 13 ((2 * a) + 0) < 120) ∧ (z_cn m_X6_putBehind [(2, 32), (0, m4 13 ((2 * a) + 0)), (0, (z_st m45 31 0 ((((m45 31 0 : Int).toNat ||| ((2 : Int) ^ (a : Int).toNat : Int).toNat : Nat)) : Int)) 11 (m4 13 ((2 * a) + 0)))] (z_st m45 31 0 ((((m45 31 0 : Int).toNat ||| ((2 : Int) ^ (a : Int).toNat : Int).toNat : Nat)) : Int)) d (fun m50 => K m50))))))))) ∧ ((z_st m4 31 4 ((((m4 31 4 : Int).toNat ||| ((2 : Int) ^ (a : Int).toNat : Int).toNat : Nat)) : Int)) 31 3 < 60 → ((0 : Int) ≤ (z_st m4 31 4 ((((m4 31 4 : Int).toNat ||| ((2 : Int) ^ (a : Int).toNat : Int).toNat : Nat)) : Int)) 31 3 ∧ (z_st m4 31 4 ((((m4 31 4 : Int).toNat ||| ((2 : Int) ^ (a : Int).toNat : Int).toNat : Nat)) : Int)) 31 3 < 60) ∧ (z_I (((z_st (z_st m4 31 4 ((((m4 31 4 : Int).toNat ||| ((2 : Int) ^ (a : Int).toNat : Int).toNat : Nat)) : Int)) 38 ((z_st m4 31 4 ((((m4 31 4 : Int).toNat ||| ((2 : Int) ^ (a : Int).toNat : Int).toNat : Nat)) : Int)) 31 3) a) 31 3) + 1) ∧ (z_ci m_X6_xBehind [(2, 32), (0, m4 13 ((2 * a) + 0))] (z_st (z_st (z_st m4 31 4 ((((m4 31 4 : Int).toNat ||| ((2 : Int) ^ (a : Int).toNat : Int).toNat : Nat)) : Int)) 38 ((z_st m4 31 4 ((((m4 31 4 : Int).toNat ||| ((2 : Int) ^ (a : Int).toNat : Int).toNat : Nat)) : Int)) 31 3) a) 31 3 (((z_st (z_st m4 31 4 ((((m4 31 4 : Int).toNat ||| ((2 : Int) ^ (a : Int).toNat : Int).toNat : Nat)) : Int)) 38 ((z_st m4 31 4 ((((m4 31 4 : Int).toNat ||| ((2 : Int) ^ (a : Int).toNat : Int).toNat : Nat)) : Int)) 31 3) a) 31 3) + 1)) d (fun x54 m52 => z_ci m_X6_yBehind [(2, 32), (0, m4 13 ((2 * a) + 0))] m52 d (fun x57 m55 => z_ci m_X6_isTaken [(2, 32), (0, x54), (0, x57)] m55 d (fun x60 m58 => (¬ x60 = 0 → K m58) ∧ (x60 = 0 → ((0 : Int) ≤ a ∧ a < 63) ∧ (((0 : Int) ≤ m58 31 0 ∧ (0 : Int) ≤ (2 : Int) ^ (a : Int).toNat) ∧ (((0 : Int) ≤ m4 13 ((2 * a) + 0) ∧ m4 13 ((2 * a) + 0) < 120) ∧ (z_cn m_X6_putBehind [(2, 32), (0, m4 13 ((2 * a) + 0)), (0, (z_st m58 31 0 ((((m58 31 0 : Int).toNat ||| ((2 : Int) ^ (a : Int).toNat : Int).toNat : Nat)) : Int)) 11 (m4 13 ((2 * a) + 0)))] (z_st m58 31 0 ((((m58 31 0 : Int).toNat ||| ((2 : Int) ^ (a : Int).toNat : Int).toNat : Nat)) : Int)) d (fun m63 => K m63)))))))))))))))))))) : z_cn m_X5_tell [(2, 31), (2, 6), (0, a)] μ (d + 1) K := by
  show z_R m_X5_tell 0 [some (2, 31), some (2, 6), some (0, a), none, none] [] z_n μ (d + 1) _
  refine z_aload_n dX5_tell_0 rfl ?_
  refine n_getp (ji := 1) dX5_tell_1 zf_X5_18 k_31 rfl (by decide) rfl p_31_1 ?_
  refine z_aload_n dX5_tell_4 rfl ?_
  refine z_iload_n dX5_tell_5 rfl ?_
  refine z_iconst dX5_tell_6 ⟨by decide, by decide⟩ ?_
  refine n_vI (as := [(0, a), (0, 0)]) (rest := [(2, 32)]) dX5_tell_7 zm_X9_faceOf zs_X5_60 k_6 (by decide) rfl rfl (Nat.le_of_ble_eq_true rfl) (Nat.le_of_ble_eq_true rfl) h (fun x3 m1 h2 => ?_)
  refine n_vI (as := [(0, x3)]) (rest := []) dX5_tell_10 zm_X6_holds zs_X5_64 k_32 (by decide) rfl rfl (Nat.le_of_ble_eq_true rfl) (Nat.le_of_ble_eq_true rfl) h2 (fun x6 m4 h5 => ?_)
  refine n_istore_n (lo' := [some (2, 31), some (2, 6), some (0, a), some (0, x6), none]) dX5_tell_13 ⟨Nat.le_of_ble_eq_true rfl, Nat.le_of_ble_eq_true rfl⟩ rfl ?_
  refine z_aload_n dX5_tell_14 rfl ?_
  refine n_getp (ji := 9) dX5_tell_15 zf_X5_68 k_6 rfl (by decide) rfl p_6_9 ?_
  refine z_iconst dX5_tell_18 ⟨by decide, by decide⟩ ?_
  refine z_iload_n dX5_tell_19 rfl ?_
  refine z_imul dX5_tell_20 h5.1 ?_
  refine z_iload_n dX5_tell_21 rfl ?_
  refine z_if_eq (tgt := 29) dX5_tell_22 (by decide) (fun q7 => ?_) (fun q8 => ?_)
  · refine z_iconst dX5_tell_29 ⟨by decide, by decide⟩ ?_
    refine z_iadd dX5_tell_30 (h5.2.1 q7).1 ?_
    refine n_iald dX5_tell_31 k_13 (h5.2.1 q7).2.1 ?_
    refine n_istore (lo' := [some (2, 31), some (2, 6), some (0, a), some (0, x6), some (0, m4 13 ((2 * a) + 1))]) dX5_tell_32 ⟨Nat.le_of_ble_eq_true rfl, Nat.le_of_ble_eq_true rfl⟩ rfl ?_
    refine z_aload_n dX5_tell_34 rfl ?_
    refine z_dup dX5_tell_35 rfl ?_
    refine n_getf (ji := 4) (t := 1) dX5_tell_36 zf_X5_30 k_31 rfl (by decide) rfl ?_
    refine z_lconst1 dX5_tell_39 ?_
    refine z_iload_n dX5_tell_40 rfl ?_
    refine n_lshl1 dX5_tell_41 (h5.2.1 q7).2.2.1 ?_
    refine z_lor dX5_tell_42 (h5.2.1 q7).2.2.2.1.1 (h5.2.1 q7).2.2.2.1.2 ?_
    refine n_putJ (ji := 4) dX5_tell_43 zf_X5_30 k_31 rfl (by decide) rfl ?_
    refine z_aload_n dX5_tell_46 rfl ?_
    refine n_getf (ji := 3) (t := 0) dX5_tell_47 zf_X5_26 k_31 rfl (by decide) rfl ?_
    refine z_bipush dX5_tell_50 (by decide) ?_
    refine z_icmp_ge (tgt := 75) dX5_tell_52 (by decide) (fun q9 => ?_) (fun q10 => ?_)
    · refine z_aload_n dX5_tell_75 rfl ?_
      refine n_getp (ji := 1) dX5_tell_76 zf_X5_18 k_31 rfl (by decide) rfl p_31_1 ?_
      refine z_aload_n dX5_tell_79 rfl ?_
      refine n_getp (ji := 1) dX5_tell_80 zf_X5_18 k_31 rfl (by decide) rfl p_31_1 ?_
      refine z_iload dX5_tell_83 rfl ?_
      refine n_vI (as := [(0, m4 13 ((2 * a) + 1))]) (rest := [(2, 32)]) dX5_tell_85 zm_X6_xBehind zs_X5_71 k_32 (by decide) rfl rfl (Nat.le_of_ble_eq_true rfl) (Nat.le_of_ble_eq_true rfl) ((h5.2.1 q7).2.2.2.2.1 q9) (fun x13 m11 h12 => ?_)
      refine z_aload_n dX5_tell_88 rfl ?_
      refine n_getp (ji := 1) dX5_tell_89 zf_X5_18 k_31 rfl (by decide) rfl p_31_1 ?_
      refine z_iload dX5_tell_92 rfl ?_
      refine n_vI (as := [(0, m4 13 ((2 * a) + 1))]) (rest := [(0, x13), (2, 32)]) dX5_tell_94 zm_X6_yBehind zs_X5_75 k_32 (by decide) rfl rfl (Nat.le_of_ble_eq_true rfl) (Nat.le_of_ble_eq_true rfl) h12 (fun x16 m14 h15 => ?_)
      refine n_vI (as := [(0, x13), (0, x16)]) (rest := []) dX5_tell_97 zm_X6_isTaken zs_X5_78 k_32 (by decide) rfl rfl (Nat.le_of_ble_eq_true rfl) (Nat.le_of_ble_eq_true rfl) h15 (fun x19 m17 h18 => ?_)
      refine z_if_ne (tgt := 131) dX5_tell_100 (by decide) (fun q20 => ?_) (fun q21 => ?_)
      · exact z_return dX5_tell_131 rfl rfl ⟨rfl, (h18.1 q20)⟩
      · refine z_aload_n dX5_tell_103 rfl ?_
        refine z_dup dX5_tell_104 rfl ?_
        refine n_getf (ji := 0) (t := 1) dX5_tell_105 zf_X5_9 k_31 rfl (by decide) rfl ?_
        refine z_lconst1 dX5_tell_108 ?_
        refine z_iload_n dX5_tell_109 rfl ?_
        refine n_lshl1 dX5_tell_110 (h18.2 q21).1 ?_
        refine z_lor dX5_tell_111 (h18.2 q21).2.1.1 (h18.2 q21).2.1.2 ?_
        refine n_putJ (ji := 0) dX5_tell_112 zf_X5_9 k_31 rfl (by decide) rfl ?_
        refine z_aload_n dX5_tell_115 rfl ?_
        refine n_getp (ji := 1) dX5_tell_116 zf_X5_18 k_31 rfl (by decide) rfl p_31_1 ?_
        refine z_iload dX5_tell_119 rfl ?_
        refine z_aload_n dX5_tell_121 rfl ?_
        refine n_getp (ji := 6) dX5_tell_122 zf_X5_82 k_6 rfl (by decide) rfl p_6_6 ?_
        refine z_iload dX5_tell_125 rfl ?_
        refine n_iald dX5_tell_127 k_11 (h18.2 q21).2.2.1 ?_
        refine n_vN (as := [(0, m4 13 ((2 * a) + 1)), (0, (z_st m17 31 0 ((((m17 31 0 : Int).toNat ||| ((2 : Int) ^ (a : Int).toNat : Int).toNat : Nat)) : Int)) 11 (m4 13 ((2 * a) + 1)))]) (rest := []) dX5_tell_128 zm_X6_putBehind zs_X5_85 k_32 (by decide) rfl rfl (Nat.le_of_ble_eq_true rfl) (Nat.le_of_ble_eq_true rfl) (h18.2 q21).2.2.2 (fun m22 h23 => ?_)
        exact z_return dX5_tell_131 rfl rfl ⟨rfl, h23⟩
    · refine z_aload_n dX5_tell_55 rfl ?_
      refine n_getp (ji := 2) dX5_tell_56 zf_X5_22 k_31 rfl (by decide) rfl p_31_2 ?_
      refine z_aload_n dX5_tell_59 rfl ?_
      refine n_getf (ji := 3) (t := 0) dX5_tell_60 zf_X5_26 k_31 rfl (by decide) rfl ?_
      refine z_iload_n dX5_tell_63 rfl ?_
      refine n_iast dX5_tell_64 k_38 ((h5.2.1 q7).2.2.2.2.2 q10).1 ?_
      refine z_aload_n dX5_tell_65 rfl ?_
      refine z_dup dX5_tell_66 rfl ?_
      refine n_getf (ji := 3) (t := 0) dX5_tell_67 zf_X5_26 k_31 rfl (by decide) rfl ?_
      refine z_iconst dX5_tell_70 ⟨by decide, by decide⟩ ?_
      refine z_iadd dX5_tell_71 ((h5.2.1 q7).2.2.2.2.2 q10).2.1 ?_
      refine n_putI (ji := 3) dX5_tell_72 zf_X5_26 k_31 rfl (by decide) rfl ?_
      refine z_aload_n dX5_tell_75 rfl ?_
      refine n_getp (ji := 1) dX5_tell_76 zf_X5_18 k_31 rfl (by decide) rfl p_31_1 ?_
      refine z_aload_n dX5_tell_79 rfl ?_
      refine n_getp (ji := 1) dX5_tell_80 zf_X5_18 k_31 rfl (by decide) rfl p_31_1 ?_
      refine z_iload dX5_tell_83 rfl ?_
      refine n_vI (as := [(0, m4 13 ((2 * a) + 1))]) (rest := [(2, 32)]) dX5_tell_85 zm_X6_xBehind zs_X5_71 k_32 (by decide) rfl rfl (Nat.le_of_ble_eq_true rfl) (Nat.le_of_ble_eq_true rfl) ((h5.2.1 q7).2.2.2.2.2 q10).2.2 (fun x26 m24 h25 => ?_)
      refine z_aload_n dX5_tell_88 rfl ?_
      refine n_getp (ji := 1) dX5_tell_89 zf_X5_18 k_31 rfl (by decide) rfl p_31_1 ?_
      refine z_iload dX5_tell_92 rfl ?_
      refine n_vI (as := [(0, m4 13 ((2 * a) + 1))]) (rest := [(0, x26), (2, 32)]) dX5_tell_94 zm_X6_yBehind zs_X5_75 k_32 (by decide) rfl rfl (Nat.le_of_ble_eq_true rfl) (Nat.le_of_ble_eq_true rfl) h25 (fun x29 m27 h28 => ?_)
      refine n_vI (as := [(0, x26), (0, x29)]) (rest := []) dX5_tell_97 zm_X6_isTaken zs_X5_78 k_32 (by decide) rfl rfl (Nat.le_of_ble_eq_true rfl) (Nat.le_of_ble_eq_true rfl) h28 (fun x32 m30 h31 => ?_)
      refine z_if_ne (tgt := 131) dX5_tell_100 (by decide) (fun q33 => ?_) (fun q34 => ?_)
      · exact z_return dX5_tell_131 rfl rfl ⟨rfl, (h31.1 q33)⟩
      · refine z_aload_n dX5_tell_103 rfl ?_
        refine z_dup dX5_tell_104 rfl ?_
        refine n_getf (ji := 0) (t := 1) dX5_tell_105 zf_X5_9 k_31 rfl (by decide) rfl ?_
        refine z_lconst1 dX5_tell_108 ?_
        refine z_iload_n dX5_tell_109 rfl ?_
        refine n_lshl1 dX5_tell_110 (h31.2 q34).1 ?_
        refine z_lor dX5_tell_111 (h31.2 q34).2.1.1 (h31.2 q34).2.1.2 ?_
        refine n_putJ (ji := 0) dX5_tell_112 zf_X5_9 k_31 rfl (by decide) rfl ?_
        refine z_aload_n dX5_tell_115 rfl ?_
        refine n_getp (ji := 1) dX5_tell_116 zf_X5_18 k_31 rfl (by decide) rfl p_31_1 ?_
        refine z_iload dX5_tell_119 rfl ?_
        refine z_aload_n dX5_tell_121 rfl ?_
        refine n_getp (ji := 6) dX5_tell_122 zf_X5_82 k_6 rfl (by decide) rfl p_6_6 ?_
        refine z_iload dX5_tell_125 rfl ?_
        refine n_iald dX5_tell_127 k_11 (h31.2 q34).2.2.1 ?_
        refine n_vN (as := [(0, m4 13 ((2 * a) + 1)), (0, (z_st m30 31 0 ((((m30 31 0 : Int).toNat ||| ((2 : Int) ^ (a : Int).toNat : Int).toNat : Nat)) : Int)) 11 (m4 13 ((2 * a) + 1)))]) (rest := []) dX5_tell_128 zm_X6_putBehind zs_X5_85 k_32 (by decide) rfl rfl (Nat.le_of_ble_eq_true rfl) (Nat.le_of_ble_eq_true rfl) (h31.2 q34).2.2.2 (fun m35 h36 => ?_)
        exact z_return dX5_tell_131 rfl rfl ⟨rfl, h36⟩
  · refine z_iconst dX5_tell_25 ⟨by decide, by decide⟩ ?_
    refine z_goto (tgt := 30) dX5_tell_26 (by decide) ?_
    refine z_iadd dX5_tell_30 (h5.2.2 q8).1 ?_
    refine n_iald dX5_tell_31 k_13 (h5.2.2 q8).2.1 ?_
    refine n_istore (lo' := [some (2, 31), some (2, 6), some (0, a), some (0, x6), some (0, m4 13 ((2 * a) + 0))]) dX5_tell_32 ⟨Nat.le_of_ble_eq_true rfl, Nat.le_of_ble_eq_true rfl⟩ rfl ?_
    refine z_aload_n dX5_tell_34 rfl ?_
    refine z_dup dX5_tell_35 rfl ?_
    refine n_getf (ji := 4) (t := 1) dX5_tell_36 zf_X5_30 k_31 rfl (by decide) rfl ?_
    refine z_lconst1 dX5_tell_39 ?_
    refine z_iload_n dX5_tell_40 rfl ?_
    refine n_lshl1 dX5_tell_41 (h5.2.2 q8).2.2.1 ?_
    refine z_lor dX5_tell_42 (h5.2.2 q8).2.2.2.1.1 (h5.2.2 q8).2.2.2.1.2 ?_
    refine n_putJ (ji := 4) dX5_tell_43 zf_X5_30 k_31 rfl (by decide) rfl ?_
    refine z_aload_n dX5_tell_46 rfl ?_
    refine n_getf (ji := 3) (t := 0) dX5_tell_47 zf_X5_26 k_31 rfl (by decide) rfl ?_
    refine z_bipush dX5_tell_50 (by decide) ?_
    refine z_icmp_ge (tgt := 75) dX5_tell_52 (by decide) (fun q37 => ?_) (fun q38 => ?_)
    · refine z_aload_n dX5_tell_75 rfl ?_
      refine n_getp (ji := 1) dX5_tell_76 zf_X5_18 k_31 rfl (by decide) rfl p_31_1 ?_
      refine z_aload_n dX5_tell_79 rfl ?_
      refine n_getp (ji := 1) dX5_tell_80 zf_X5_18 k_31 rfl (by decide) rfl p_31_1 ?_
      refine z_iload dX5_tell_83 rfl ?_
      refine n_vI (as := [(0, m4 13 ((2 * a) + 0))]) (rest := [(2, 32)]) dX5_tell_85 zm_X6_xBehind zs_X5_71 k_32 (by decide) rfl rfl (Nat.le_of_ble_eq_true rfl) (Nat.le_of_ble_eq_true rfl) ((h5.2.2 q8).2.2.2.2.1 q37) (fun x41 m39 h40 => ?_)
      refine z_aload_n dX5_tell_88 rfl ?_
      refine n_getp (ji := 1) dX5_tell_89 zf_X5_18 k_31 rfl (by decide) rfl p_31_1 ?_
      refine z_iload dX5_tell_92 rfl ?_
      refine n_vI (as := [(0, m4 13 ((2 * a) + 0))]) (rest := [(0, x41), (2, 32)]) dX5_tell_94 zm_X6_yBehind zs_X5_75 k_32 (by decide) rfl rfl (Nat.le_of_ble_eq_true rfl) (Nat.le_of_ble_eq_true rfl) h40 (fun x44 m42 h43 => ?_)
      refine n_vI (as := [(0, x41), (0, x44)]) (rest := []) dX5_tell_97 zm_X6_isTaken zs_X5_78 k_32 (by decide) rfl rfl (Nat.le_of_ble_eq_true rfl) (Nat.le_of_ble_eq_true rfl) h43 (fun x47 m45 h46 => ?_)
      refine z_if_ne (tgt := 131) dX5_tell_100 (by decide) (fun q48 => ?_) (fun q49 => ?_)
      · exact z_return dX5_tell_131 rfl rfl ⟨rfl, (h46.1 q48)⟩
      · refine z_aload_n dX5_tell_103 rfl ?_
        refine z_dup dX5_tell_104 rfl ?_
        refine n_getf (ji := 0) (t := 1) dX5_tell_105 zf_X5_9 k_31 rfl (by decide) rfl ?_
        refine z_lconst1 dX5_tell_108 ?_
        refine z_iload_n dX5_tell_109 rfl ?_
        refine n_lshl1 dX5_tell_110 (h46.2 q49).1 ?_
        refine z_lor dX5_tell_111 (h46.2 q49).2.1.1 (h46.2 q49).2.1.2 ?_
        refine n_putJ (ji := 0) dX5_tell_112 zf_X5_9 k_31 rfl (by decide) rfl ?_
        refine z_aload_n dX5_tell_115 rfl ?_
        refine n_getp (ji := 1) dX5_tell_116 zf_X5_18 k_31 rfl (by decide) rfl p_31_1 ?_
        refine z_iload dX5_tell_119 rfl ?_
        refine z_aload_n dX5_tell_121 rfl ?_
        refine n_getp (ji := 6) dX5_tell_122 zf_X5_82 k_6 rfl (by decide) rfl p_6_6 ?_
        refine z_iload dX5_tell_125 rfl ?_
        refine n_iald dX5_tell_127 k_11 (h46.2 q49).2.2.1 ?_
        refine n_vN (as := [(0, m4 13 ((2 * a) + 0)), (0, (z_st m45 31 0 ((((m45 31 0 : Int).toNat ||| ((2 : Int) ^ (a : Int).toNat : Int).toNat : Nat)) : Int)) 11 (m4 13 ((2 * a) + 0)))]) (rest := []) dX5_tell_128 zm_X6_putBehind zs_X5_85 k_32 (by decide) rfl rfl (Nat.le_of_ble_eq_true rfl) (Nat.le_of_ble_eq_true rfl) (h46.2 q49).2.2.2 (fun m50 h51 => ?_)
        exact z_return dX5_tell_131 rfl rfl ⟨rfl, h51⟩
    · refine z_aload_n dX5_tell_55 rfl ?_
      refine n_getp (ji := 2) dX5_tell_56 zf_X5_22 k_31 rfl (by decide) rfl p_31_2 ?_
      refine z_aload_n dX5_tell_59 rfl ?_
      refine n_getf (ji := 3) (t := 0) dX5_tell_60 zf_X5_26 k_31 rfl (by decide) rfl ?_
      refine z_iload_n dX5_tell_63 rfl ?_
      refine n_iast dX5_tell_64 k_38 ((h5.2.2 q8).2.2.2.2.2 q38).1 ?_
      refine z_aload_n dX5_tell_65 rfl ?_
      refine z_dup dX5_tell_66 rfl ?_
      refine n_getf (ji := 3) (t := 0) dX5_tell_67 zf_X5_26 k_31 rfl (by decide) rfl ?_
      refine z_iconst dX5_tell_70 ⟨by decide, by decide⟩ ?_
      refine z_iadd dX5_tell_71 ((h5.2.2 q8).2.2.2.2.2 q38).2.1 ?_
      refine n_putI (ji := 3) dX5_tell_72 zf_X5_26 k_31 rfl (by decide) rfl ?_
      refine z_aload_n dX5_tell_75 rfl ?_
      refine n_getp (ji := 1) dX5_tell_76 zf_X5_18 k_31 rfl (by decide) rfl p_31_1 ?_
      refine z_aload_n dX5_tell_79 rfl ?_
      refine n_getp (ji := 1) dX5_tell_80 zf_X5_18 k_31 rfl (by decide) rfl p_31_1 ?_
      refine z_iload dX5_tell_83 rfl ?_
      refine n_vI (as := [(0, m4 13 ((2 * a) + 0))]) (rest := [(2, 32)]) dX5_tell_85 zm_X6_xBehind zs_X5_71 k_32 (by decide) rfl rfl (Nat.le_of_ble_eq_true rfl) (Nat.le_of_ble_eq_true rfl) ((h5.2.2 q8).2.2.2.2.2 q38).2.2 (fun x54 m52 h53 => ?_)
      refine z_aload_n dX5_tell_88 rfl ?_
      refine n_getp (ji := 1) dX5_tell_89 zf_X5_18 k_31 rfl (by decide) rfl p_31_1 ?_
      refine z_iload dX5_tell_92 rfl ?_
      refine n_vI (as := [(0, m4 13 ((2 * a) + 0))]) (rest := [(0, x54), (2, 32)]) dX5_tell_94 zm_X6_yBehind zs_X5_75 k_32 (by decide) rfl rfl (Nat.le_of_ble_eq_true rfl) (Nat.le_of_ble_eq_true rfl) h53 (fun x57 m55 h56 => ?_)
      refine n_vI (as := [(0, x54), (0, x57)]) (rest := []) dX5_tell_97 zm_X6_isTaken zs_X5_78 k_32 (by decide) rfl rfl (Nat.le_of_ble_eq_true rfl) (Nat.le_of_ble_eq_true rfl) h56 (fun x60 m58 h59 => ?_)
      refine z_if_ne (tgt := 131) dX5_tell_100 (by decide) (fun q61 => ?_) (fun q62 => ?_)
      · exact z_return dX5_tell_131 rfl rfl ⟨rfl, (h59.1 q61)⟩
      · refine z_aload_n dX5_tell_103 rfl ?_
        refine z_dup dX5_tell_104 rfl ?_
        refine n_getf (ji := 0) (t := 1) dX5_tell_105 zf_X5_9 k_31 rfl (by decide) rfl ?_
        refine z_lconst1 dX5_tell_108 ?_
        refine z_iload_n dX5_tell_109 rfl ?_
        refine n_lshl1 dX5_tell_110 (h59.2 q62).1 ?_
        refine z_lor dX5_tell_111 (h59.2 q62).2.1.1 (h59.2 q62).2.1.2 ?_
        refine n_putJ (ji := 0) dX5_tell_112 zf_X5_9 k_31 rfl (by decide) rfl ?_
        refine z_aload_n dX5_tell_115 rfl ?_
        refine n_getp (ji := 1) dX5_tell_116 zf_X5_18 k_31 rfl (by decide) rfl p_31_1 ?_
        refine z_iload dX5_tell_119 rfl ?_
        refine z_aload_n dX5_tell_121 rfl ?_
        refine n_getp (ji := 6) dX5_tell_122 zf_X5_82 k_6 rfl (by decide) rfl p_6_6 ?_
        refine z_iload dX5_tell_125 rfl ?_
        refine n_iald dX5_tell_127 k_11 (h59.2 q62).2.2.1 ?_
        refine n_vN (as := [(0, m4 13 ((2 * a) + 0)), (0, (z_st m58 31 0 ((((m58 31 0 : Int).toNat ||| ((2 : Int) ^ (a : Int).toNat : Int).toNat : Nat)) : Int)) 11 (m4 13 ((2 * a) + 0)))]) (rest := []) dX5_tell_128 zm_X6_putBehind zs_X5_85 k_32 (by decide) rfl rfl (Nat.le_of_ble_eq_true rfl) (Nat.le_of_ble_eq_true rfl) (h59.2 q62).2.2.2 (fun m63 h64 => ?_)
        exact z_return dX5_tell_131 rfl rfl ⟨rfl, h64⟩
set_option maxRecDepth 20000 in
theorem V_X5_turnBack  {μ : z_Mem} {d : Nat} {K : Int → z_Mem → Prop} (h : (μ 31 3 ≤ 0 → K 0 μ) ∧ (0 < μ 31 3 → z_I ((μ 31 3) - 1) ∧ (((0 : Int) ≤ (μ 31 3) - 1 ∧ (μ 31 3) - 1 < 60) ∧ (((0 : Int) ≤ μ 38 ((μ 31 3) - 1) ∧ μ 38 ((μ 31 3) - 1) < 64) ∧ (((0 : Int) ≤ μ 31 0) ∧ (((0 : Int) ≤ (μ 31 0) / 2 ^ (μ 38 ((μ 31 3) - 1) : Int).toNat ∧ (0 : Int) ≤ 1) ∧ (((((((μ 31 0) / 2 ^ (μ 38 ((μ 31 3) - 1) : Int).toNat : Int).toNat &&& (1 : Int).toNat : Nat)) : Int) = 0 → ((0 : Int) ≤ μ 38 ((μ 31 3) - 1) ∧ μ 38 ((μ 31 3) - 1) < 63) ∧ (((0 : Int) ≤ μ 31 4 ∧ (0 : Int) ≤ ((2 : Int) ^ (μ 38 ((μ 31 3) - 1) : Int).toNat)) ∧ (z_I (((z_st μ 31 4 ((((μ 31 4 : Int).toNat ^^^ ((μ 31 4 : Int).toNat &&& (((2 : Int) ^ (μ 38 ((μ 31 3) - 1) : Int).toNat) : Int).toNat) : Nat)) : Int)) 31 3) - 1) ∧ (z_ri m_X5_turnBack 0 [some (2, 31), none] (z_st (z_st μ 31 4 ((((μ 31 4 : Int).toNat ^^^ ((μ 31 4 : Int).toNat &&& (((2 : Int) ^ (μ 38 ((μ 31 3) - 1) : Int).toNat) : Int).toNat) : Nat)) : Int)) 31 3 (((z_st μ 31 4 ((((μ 31 4 : Int).toNat ^^^ ((μ 31 4 : Int).toNat &&& (((2 : Int) ^ (μ 38 ((μ 31 3) - 1) : Int).toNat) : Int).toNat) : Nat)) : Int)) 31 3) - 1)) (d + 1) K)))) ∧ (¬ (((((μ 31 0) / 2 ^ (μ 38 ((μ 31 3) - 1) : Int).toNat : Int).toNat &&& (1 : Int).toNat : Nat)) : Int) = 0 → ((0 : Int) ≤ μ 38 ((μ 31 3) - 1) ∧ μ 38 ((μ 31 3) - 1) < 63) ∧ (((0 : Int) ≤ μ 31 0 ∧ (0 : Int) ≤ ((2 : Int) ^ (μ 38 ((μ 31 3) - 1) : Int).toNat)) ∧ (z_cn m_X6_takeLast [(2, 32)] (z_st μ 31 0 ((((μ 31 0 : Int).toNat ^^^ ((μ 31 0 : Int).toNat &&& (((2 : Int) ^ (μ 38 ((μ 31 3) - 1) : Int).toNat) : Int).toNat) : Nat)) : Int)) d (fun m5 => K 1 m5))))))))))) : z_ci m_X5_turnBack [(2, 31)] μ (d + 1) K := by
  show z_R m_X5_turnBack 0 [some (2, 31), none] [] z_n μ (d + 1) _
  refine z_aload_n dX5_turnBack_0 rfl ?_
  refine n_getf (ji := 3) (t := 0) dX5_turnBack_1 zf_X5_26 k_31 rfl (by decide) rfl ?_
  refine z_if_le (tgt := 86) dX5_turnBack_4 (by decide) (fun q1 => ?_) (fun q2 => ?_)
  · refine z_iconst dX5_turnBack_86 ⟨by decide, by decide⟩ ?_
    exact z_zreturn dX5_turnBack_87 rfl rfl (by decide) ⟨_, rfl, (h.1 q1)⟩
  · refine z_aload_n dX5_turnBack_7 rfl ?_
    refine n_getp (ji := 2) dX5_turnBack_8 zf_X5_22 k_31 rfl (by decide) rfl p_31_2 ?_
    refine z_aload_n dX5_turnBack_11 rfl ?_
    refine n_getf (ji := 3) (t := 0) dX5_turnBack_12 zf_X5_26 k_31 rfl (by decide) rfl ?_
    refine z_iconst dX5_turnBack_15 ⟨by decide, by decide⟩ ?_
    refine z_isub dX5_turnBack_16 (h.2 q2).1 ?_
    refine n_iald dX5_turnBack_17 k_38 (h.2 q2).2.1 ?_
    refine n_istore_n (lo' := [some (2, 31), some (0, μ 38 ((μ 31 3) - 1))]) dX5_turnBack_18 ⟨Nat.le_of_ble_eq_true rfl, Nat.le_of_ble_eq_true rfl⟩ rfl ?_
    refine z_aload_n dX5_turnBack_19 rfl ?_
    refine n_getf (ji := 0) (t := 1) dX5_turnBack_20 zf_X5_9 k_31 rfl (by decide) rfl ?_
    refine z_iload_n dX5_turnBack_23 rfl ?_
    refine n_lushr dX5_turnBack_24 (h.2 q2).2.2.1 (h.2 q2).2.2.2.1 ?_
    refine z_lconst1 dX5_turnBack_25 ?_
    refine z_land dX5_turnBack_26 (h.2 q2).2.2.2.2.1.1 (h.2 q2).2.2.2.2.1.2 ?_
    refine z_lconst0 dX5_turnBack_27 ?_
    refine z_lcmp_eq (tgt := 57) dX5_turnBack_28 dX5_turnBack_29 (by decide) (fun q3 => ?_) (fun q4 => ?_)
    · refine z_aload_n dX5_turnBack_57 rfl ?_
      refine z_dup dX5_turnBack_58 rfl ?_
      refine n_getf (ji := 4) (t := 1) dX5_turnBack_59 zf_X5_30 k_31 rfl (by decide) rfl ?_
      refine z_lconst1 dX5_turnBack_62 ?_
      refine z_iload_n dX5_turnBack_63 rfl ?_
      refine n_lshl1 dX5_turnBack_64 ((h.2 q2).2.2.2.2.2.1 q3).1 ?_
      refine z_ldc2 (n := -1) dX5_turnBack_65 zc_931 ⟨by decide, by decide⟩ ?_
      refine z_lxorn dX5_turnBack_68 rfl ?_
      refine z_landn dX5_turnBack_69 (((2 : Int) ^ (μ 38 ((μ 31 3) - 1) : Int).toNat)) rfl ((h.2 q2).2.2.2.2.2.1 q3).2.1.1 ((h.2 q2).2.2.2.2.2.1 q3).2.1.2 ?_
      refine n_putJ (ji := 4) dX5_turnBack_70 zf_X5_30 k_31 rfl (by decide) rfl ?_
      refine z_aload_n dX5_turnBack_73 rfl ?_
      refine z_dup dX5_turnBack_74 rfl ?_
      refine n_getf (ji := 3) (t := 0) dX5_turnBack_75 zf_X5_26 k_31 rfl (by decide) rfl ?_
      refine z_iconst dX5_turnBack_78 ⟨by decide, by decide⟩ ?_
      refine z_isub dX5_turnBack_79 ((h.2 q2).2.2.2.2.2.1 q3).2.2.1 ?_
      refine n_putI (ji := 3) dX5_turnBack_80 zf_X5_26 k_31 rfl (by decide) rfl ?_
      refine z_goto (tgt := 0) dX5_turnBack_83 (by decide) ?_
      refine z_drop [some (2, 31), none] ⟨rfl, trivial⟩ ?_
      exact ((h.2 q2).2.2.2.2.2.1 q3).2.2.2
    · refine z_aload_n dX5_turnBack_32 rfl ?_
      refine z_dup dX5_turnBack_33 rfl ?_
      refine n_getf (ji := 0) (t := 1) dX5_turnBack_34 zf_X5_9 k_31 rfl (by decide) rfl ?_
      refine z_lconst1 dX5_turnBack_37 ?_
      refine z_iload_n dX5_turnBack_38 rfl ?_
      refine n_lshl1 dX5_turnBack_39 ((h.2 q2).2.2.2.2.2.2 q4).1 ?_
      refine z_ldc2 (n := -1) dX5_turnBack_40 zc_931 ⟨by decide, by decide⟩ ?_
      refine z_lxorn dX5_turnBack_43 rfl ?_
      refine z_landn dX5_turnBack_44 (((2 : Int) ^ (μ 38 ((μ 31 3) - 1) : Int).toNat)) rfl ((h.2 q2).2.2.2.2.2.2 q4).2.1.1 ((h.2 q2).2.2.2.2.2.2 q4).2.1.2 ?_
      refine n_putJ (ji := 0) dX5_turnBack_45 zf_X5_9 k_31 rfl (by decide) rfl ?_
      refine z_aload_n dX5_turnBack_48 rfl ?_
      refine n_getp (ji := 1) dX5_turnBack_49 zf_X5_18 k_31 rfl (by decide) rfl p_31_1 ?_
      refine n_vN (as := []) (rest := []) dX5_turnBack_52 zm_X6_takeLast zs_X5_90 k_32 (by decide) rfl rfl (Nat.le_of_ble_eq_true rfl) (Nat.le_of_ble_eq_true rfl) ((h.2 q2).2.2.2.2.2.2 q4).2.2 (fun m5 h6 => ?_)
      refine z_iconst dX5_turnBack_55 ⟨by decide, by decide⟩ ?_
      exact z_zreturn dX5_turnBack_56 rfl rfl (by decide) ⟨_, rfl, h6⟩
set_option maxRecDepth 20000 in
theorem V_X5_turnBack_0  {μ : z_Mem} {d : Nat} {K : Int → z_Mem → Prop} (h : (μ 31 3 ≤ 0 → K 0 μ) ∧ (0 < μ 31 3 → z_I ((μ 31 3) - 1) ∧ (((0 : Int) ≤ (μ 31 3) - 1 ∧ (μ 31 3) - 1 < 60) ∧ (((0 : Int) ≤ μ 38 ((μ 31 3) - 1) ∧ μ 38 ((μ 31 3) - 1) < 64) ∧ (((0 : Int) ≤ μ 31 0) ∧ (((0 : Int) ≤ (μ 31 0) / 2 ^ (μ 38 ((μ 31 3) - 1) : Int).toNat ∧ (0 : Int) ≤ 1) ∧ (((((((μ 31 0) / 2 ^ (μ 38 ((μ 31 3) - 1) : Int).toNat : Int).toNat &&& (1 : Int).toNat : Nat)) : Int) = 0 → ((0 : Int) ≤ μ 38 ((μ 31 3) - 1) ∧ μ 38 ((μ 31 3) - 1) < 63) ∧ (((0 : Int) ≤ μ 31 4 ∧ (0 : Int) ≤ ((2 : Int) ^ (μ 38 ((μ 31 3) - 1) : Int).toNat)) ∧ (z_I (((z_st μ 31 4 ((((μ 31 4 : Int).toNat ^^^ ((μ 31 4 : Int).toNat &&& (((2 : Int) ^ (μ 38 ((μ 31 3) - 1) : Int).toNat) : Int).toNat) : Nat)) : Int)) 31 3) - 1) ∧ (z_ri m_X5_turnBack 0 [some (2, 31), none] (z_st (z_st μ 31 4 ((((μ 31 4 : Int).toNat ^^^ ((μ 31 4 : Int).toNat &&& (((2 : Int) ^ (μ 38 ((μ 31 3) - 1) : Int).toNat) : Int).toNat) : Nat)) : Int)) 31 3 (((z_st μ 31 4 ((((μ 31 4 : Int).toNat ^^^ ((μ 31 4 : Int).toNat &&& (((2 : Int) ^ (μ 38 ((μ 31 3) - 1) : Int).toNat) : Int).toNat) : Nat)) : Int)) 31 3) - 1)) (d + 1) K)))) ∧ (¬ (((((μ 31 0) / 2 ^ (μ 38 ((μ 31 3) - 1) : Int).toNat : Int).toNat &&& (1 : Int).toNat : Nat)) : Int) = 0 → ((0 : Int) ≤ μ 38 ((μ 31 3) - 1) ∧ μ 38 ((μ 31 3) - 1) < 63) ∧ (((0 : Int) ≤ μ 31 0 ∧ (0 : Int) ≤ ((2 : Int) ^ (μ 38 ((μ 31 3) - 1) : Int).toNat)) ∧ (z_cn m_X6_takeLast [(2, 32)] (z_st μ 31 0 ((((μ 31 0 : Int).toNat ^^^ ((μ 31 0 : Int).toNat &&& (((2 : Int) ^ (μ 38 ((μ 31 3) - 1) : Int).toNat) : Int).toNat) : Nat)) : Int)) d (fun m5 => K 1 m5))))))))))) : z_ri m_X5_turnBack 0 [some (2, 31), none] μ (d + 1) K := by
  show z_R m_X5_turnBack 0 [some (2, 31), none] [] z_n μ (d + 1) _
  refine z_aload_n dX5_turnBack_0 rfl ?_
  refine n_getf (ji := 3) (t := 0) dX5_turnBack_1 zf_X5_26 k_31 rfl (by decide) rfl ?_
  refine z_if_le (tgt := 86) dX5_turnBack_4 (by decide) (fun q1 => ?_) (fun q2 => ?_)
  · refine z_iconst dX5_turnBack_86 ⟨by decide, by decide⟩ ?_
    exact z_zreturn dX5_turnBack_87 rfl rfl (by decide) ⟨_, rfl, (h.1 q1)⟩
  · refine z_aload_n dX5_turnBack_7 rfl ?_
    refine n_getp (ji := 2) dX5_turnBack_8 zf_X5_22 k_31 rfl (by decide) rfl p_31_2 ?_
    refine z_aload_n dX5_turnBack_11 rfl ?_
    refine n_getf (ji := 3) (t := 0) dX5_turnBack_12 zf_X5_26 k_31 rfl (by decide) rfl ?_
    refine z_iconst dX5_turnBack_15 ⟨by decide, by decide⟩ ?_
    refine z_isub dX5_turnBack_16 (h.2 q2).1 ?_
    refine n_iald dX5_turnBack_17 k_38 (h.2 q2).2.1 ?_
    refine n_istore_n (lo' := [some (2, 31), some (0, μ 38 ((μ 31 3) - 1))]) dX5_turnBack_18 ⟨Nat.le_of_ble_eq_true rfl, Nat.le_of_ble_eq_true rfl⟩ rfl ?_
    refine z_aload_n dX5_turnBack_19 rfl ?_
    refine n_getf (ji := 0) (t := 1) dX5_turnBack_20 zf_X5_9 k_31 rfl (by decide) rfl ?_
    refine z_iload_n dX5_turnBack_23 rfl ?_
    refine n_lushr dX5_turnBack_24 (h.2 q2).2.2.1 (h.2 q2).2.2.2.1 ?_
    refine z_lconst1 dX5_turnBack_25 ?_
    refine z_land dX5_turnBack_26 (h.2 q2).2.2.2.2.1.1 (h.2 q2).2.2.2.2.1.2 ?_
    refine z_lconst0 dX5_turnBack_27 ?_
    refine z_lcmp_eq (tgt := 57) dX5_turnBack_28 dX5_turnBack_29 (by decide) (fun q3 => ?_) (fun q4 => ?_)
    · refine z_aload_n dX5_turnBack_57 rfl ?_
      refine z_dup dX5_turnBack_58 rfl ?_
      refine n_getf (ji := 4) (t := 1) dX5_turnBack_59 zf_X5_30 k_31 rfl (by decide) rfl ?_
      refine z_lconst1 dX5_turnBack_62 ?_
      refine z_iload_n dX5_turnBack_63 rfl ?_
      refine n_lshl1 dX5_turnBack_64 ((h.2 q2).2.2.2.2.2.1 q3).1 ?_
      refine z_ldc2 (n := -1) dX5_turnBack_65 zc_931 ⟨by decide, by decide⟩ ?_
      refine z_lxorn dX5_turnBack_68 rfl ?_
      refine z_landn dX5_turnBack_69 (((2 : Int) ^ (μ 38 ((μ 31 3) - 1) : Int).toNat)) rfl ((h.2 q2).2.2.2.2.2.1 q3).2.1.1 ((h.2 q2).2.2.2.2.2.1 q3).2.1.2 ?_
      refine n_putJ (ji := 4) dX5_turnBack_70 zf_X5_30 k_31 rfl (by decide) rfl ?_
      refine z_aload_n dX5_turnBack_73 rfl ?_
      refine z_dup dX5_turnBack_74 rfl ?_
      refine n_getf (ji := 3) (t := 0) dX5_turnBack_75 zf_X5_26 k_31 rfl (by decide) rfl ?_
      refine z_iconst dX5_turnBack_78 ⟨by decide, by decide⟩ ?_
      refine z_isub dX5_turnBack_79 ((h.2 q2).2.2.2.2.2.1 q3).2.2.1 ?_
      refine n_putI (ji := 3) dX5_turnBack_80 zf_X5_26 k_31 rfl (by decide) rfl ?_
      refine z_goto (tgt := 0) dX5_turnBack_83 (by decide) ?_
      refine z_drop [some (2, 31), none] ⟨rfl, trivial⟩ ?_
      exact ((h.2 q2).2.2.2.2.2.1 q3).2.2.2
    · refine z_aload_n dX5_turnBack_32 rfl ?_
      refine z_dup dX5_turnBack_33 rfl ?_
      refine n_getf (ji := 0) (t := 1) dX5_turnBack_34 zf_X5_9 k_31 rfl (by decide) rfl ?_
      refine z_lconst1 dX5_turnBack_37 ?_
      refine z_iload_n dX5_turnBack_38 rfl ?_
      refine n_lshl1 dX5_turnBack_39 ((h.2 q2).2.2.2.2.2.2 q4).1 ?_
      refine z_ldc2 (n := -1) dX5_turnBack_40 zc_931 ⟨by decide, by decide⟩ ?_
      refine z_lxorn dX5_turnBack_43 rfl ?_
      refine z_landn dX5_turnBack_44 (((2 : Int) ^ (μ 38 ((μ 31 3) - 1) : Int).toNat)) rfl ((h.2 q2).2.2.2.2.2.2 q4).2.1.1 ((h.2 q2).2.2.2.2.2.2 q4).2.1.2 ?_
      refine n_putJ (ji := 0) dX5_turnBack_45 zf_X5_9 k_31 rfl (by decide) rfl ?_
      refine z_aload_n dX5_turnBack_48 rfl ?_
      refine n_getp (ji := 1) dX5_turnBack_49 zf_X5_18 k_31 rfl (by decide) rfl p_31_1 ?_
      refine n_vN (as := []) (rest := []) dX5_turnBack_52 zm_X6_takeLast zs_X5_90 k_32 (by decide) rfl rfl (Nat.le_of_ble_eq_true rfl) (Nat.le_of_ble_eq_true rfl) ((h.2 q2).2.2.2.2.2.2 q4).2.2 (fun m5 h6 => ?_)
      refine z_iconst dX5_turnBack_55 ⟨by decide, by decide⟩ ?_
      exact z_zreturn dX5_turnBack_56 rfl rfl (by decide) ⟨_, rfl, h6⟩
set_option maxRecDepth 20000 in
theorem V_X7_store {o : Int} (ho : z_kd o = 7) {μ : z_Mem} {d : Nat} {K : z_Mem → Prop} (h : z_cn m_X3_copy [(2, (o + 2)), (2, 21)] (z_cpy (z_st (z_st μ o 0 1) o 1 ((z_st μ o 0 1) 6 0)) 7 0 (o + 1) 0 21) d (fun m1 => K (z_cpy (z_st m1 o 4 (m1 75 0)) 76 0 (o + 4) 0 30))) : z_cn m_X7_store [(2, o), (2, 6), (2, 21), (2, 75)] μ (d + 1) K := by
  show z_R m_X7_store 0 [some (2, o), some (2, 6), some (2, 21), some (2, 75)] [] z_n μ (d + 1) _
  refine z_aload_n dX7_store_0 rfl ?_
  refine z_iconst dX7_store_1 ⟨by decide, by decide⟩ ?_
  refine n_putZ (ji := 0) dX7_store_2 zf_X7_9 ho rfl (by decide) rfl (by decide) ?_
  refine z_aload_n dX7_store_5 rfl ?_
  refine z_aload_n dX7_store_6 rfl ?_
  refine n_getf (ji := 0) (t := 0) dX7_store_7 zf_X7_36 k_6 rfl (by decide) rfl ?_
  refine n_putI (ji := 1) dX7_store_10 zf_X7_15 ho rfl (by decide) rfl ?_
  refine z_aload_n dX7_store_13 rfl ?_
  refine n_getp (ji := 1) dX7_store_14 zf_X7_39 k_6 rfl (by decide) rfl p_6_1 ?_
  refine z_iconst dX7_store_17 ⟨by decide, by decide⟩ ?_
  refine z_aload_n dX7_store_18 rfl ?_
  refine n_getp (ji := 2) dX7_store_19 zf_X7_19 ho rfl (by decide) rfl (s_7_2_p ho) ?_
  refine z_iconst dX7_store_22 ⟨by decide, by decide⟩ ?_
  refine z_aload_n dX7_store_23 rfl ?_
  refine n_getp (ji := 2) dX7_store_24 zf_X7_19 ho rfl (by decide) rfl (s_7_2_p ho) ?_
  refine n_alen (t0 := 1) dX7_store_27 (s_7_2_k ho) (by decide) (fun _ => rfl) (by decide) ?_
  refine z_acopy dX7_store_28 zq_980 zq_644 zq_643 zq_134 (Nat.le_of_ble_eq_true rfl) (z_isn k_7.1 (by decide)) (z_isn (s_7_2_k ho).1 (by decide)) (by decide) (by decide) (by decide) (by rw [k_7.2]; decide) (by rw [(s_7_2_k ho).2]; decide) ?_
  refine z_aload_n dX7_store_31 rfl ?_
  refine n_getp (ji := 3) dX7_store_32 zf_X7_26 ho rfl (by decide) rfl (s_7_3_p ho) ?_
  refine z_aload_n dX7_store_35 rfl ?_
  refine n_vN (as := [(2, 21)]) (rest := []) dX7_store_36 zm_X3_copy zs_X7_46 (s_7_3_k ho) (by decide) rfl rfl (Nat.le_of_ble_eq_true rfl) (Nat.le_of_ble_eq_true rfl) h (fun m1 h2 => ?_)
  refine z_aload_n dX7_store_39 rfl ?_
  refine z_aload_n dX7_store_40 rfl ?_
  refine n_getf (ji := 0) (t := 0) dX7_store_41 zf_X7_50 k_75 rfl (by decide) rfl ?_
  refine n_putI (ji := 4) dX7_store_44 zf_X7_30 ho rfl (by decide) rfl ?_
  refine z_aload_n dX7_store_47 rfl ?_
  refine n_getp (ji := 1) dX7_store_48 zf_X7_53 k_75 rfl (by decide) rfl p_75_1 ?_
  refine z_iconst dX7_store_51 ⟨by decide, by decide⟩ ?_
  refine z_aload_n dX7_store_52 rfl ?_
  refine n_getp (ji := 5) dX7_store_53 zf_X7_33 ho rfl (by decide) rfl (s_7_5_p ho) ?_
  refine z_iconst dX7_store_56 ⟨by decide, by decide⟩ ?_
  refine z_aload_n dX7_store_57 rfl ?_
  refine n_getp (ji := 5) dX7_store_58 zf_X7_33 ho rfl (by decide) rfl (s_7_5_p ho) ?_
  refine n_alen (t0 := 1) dX7_store_61 (s_7_5_k ho) (by decide) (fun _ => rfl) (by decide) ?_
  refine z_acopy dX7_store_62 zq_980 zq_644 zq_643 zq_134 (Nat.le_of_ble_eq_true rfl) (z_isn k_76.1 (by decide)) (z_isn (s_7_5_k ho).1 (by decide)) (by decide) (by decide) (by decide) (by rw [k_76.2]; decide) (by rw [(s_7_5_k ho).2]; decide) ?_
  exact z_return dX7_store_65 rfl rfl ⟨rfl, h2⟩
set_option maxRecDepth 20000 in
theorem V_X8_draw {a : Int}  {μ : z_Mem} {d : Nat} {K : z_Mem → Prop} (h : z_rn m_X8_draw 12 [some (2, 75), some (2, 23), none, some (0, 0)] (z_st μ 75 0 (min a 30)) (d + 1) K) : z_cn m_X8_draw [(2, 75), (2, 23), (0, a)] μ (d + 1) K := by
  show z_R m_X8_draw 0 [some (2, 75), some (2, 23), some (0, a), none] [] z_n μ (d + 1) _
  refine z_aload_n dX8_draw_0 rfl ?_
  refine z_iload_n dX8_draw_1 rfl ?_
  refine z_bipush dX8_draw_2 (by decide) ?_
  refine z_mmin dX8_draw_4 zq_960 zq_592 zq_133 zq_593 (Nat.le_of_ble_eq_true rfl) ?_
  refine n_putI (ji := 0) dX8_draw_7 zf_X8_9 k_75 rfl (by decide) rfl ?_
  refine z_iconst dX8_draw_10 ⟨by decide, by decide⟩ ?_
  refine n_istore_n (lo' := [some (2, 75), some (2, 23), some (0, a), some (0, 0)]) dX8_draw_11 ⟨Nat.le_of_ble_eq_true rfl, Nat.le_of_ble_eq_true rfl⟩ rfl ?_
  refine z_drop [some (2, 75), some (2, 23), none, some (0, 0)] ⟨rfl, rfl, rfl, trivial⟩ ?_
  exact h
set_option maxRecDepth 20000 in
theorem V_X8_draw_12 {v3 : Int}  {μ : z_Mem} {d : Nat} {K : z_Mem → Prop} (h : (8 ≤ v3 → K μ) ∧ (v3 < 8 → (μ 75 0 ≤ 0 → K μ) ∧ (0 < μ 75 0 → z_cn m_X8_turn [(2, 75), (2, 23), (0, v3)] μ d (fun m5 => z_cn m_X8_sort [(2, 75)] m5 d (fun m7 => (v3 = 0 → ((0 : Int) ≤ m7 75 0 ∧ m7 75 0 ≤ 30 ∧ m7 75 0 ≤ 30) ∧ (z_I (v3 + 1) ∧ (z_rn m_X8_draw 12 [some (2, 75), some (2, 23), none, some (0, v3 + 1)] (z_cpy m7 77 0 76 0 (m7 75 0)) (d + 1) K))) ∧ (¬ v3 = 0 → z_ci m_X8_isTrialFirst [(2, 75)] m7 d (fun x13 m11 => (x13 = 0 → z_I (v3 + 1) ∧ (z_rn m_X8_draw 12 [some (2, 75), some (2, 23), none, some (0, v3 + 1)] m11 (d + 1) K)) ∧ (¬ x13 = 0 → ((0 : Int) ≤ m11 75 0 ∧ m11 75 0 ≤ 30 ∧ m11 75 0 ≤ 30) ∧ (z_I (v3 + 1) ∧ (z_rn m_X8_draw 12 [some (2, 75), some (2, 23), none, some (0, v3 + 1)] (z_cpy m11 77 0 76 0 (m11 75 0)) (d + 1) K)))))))))) : z_rn m_X8_draw 12 [some (2, 75), some (2, 23), none, some (0, v3)] μ (d + 1) K := by
  show z_R m_X8_draw 12 [some (2, 75), some (2, 23), none, some (0, v3)] [] z_n μ (d + 1) _
  refine z_iload_n dX8_draw_12 rfl ?_
  refine z_bipush dX8_draw_13 (by decide) ?_
  refine z_icmp_ge (tgt := 69) dX8_draw_15 (by decide) (fun q1 => ?_) (fun q2 => ?_)
  · exact z_return dX8_draw_69 rfl rfl ⟨rfl, (h.1 q1)⟩
  · refine z_aload_n dX8_draw_18 rfl ?_
    refine n_getf (ji := 0) (t := 0) dX8_draw_19 zf_X8_9 k_75 rfl (by decide) rfl ?_
    refine z_if_le (tgt := 69) dX8_draw_22 (by decide) (fun q3 => ?_) (fun q4 => ?_)
    · exact z_return dX8_draw_69 rfl rfl ⟨rfl, ((h.2 q2).1 q3)⟩
    · refine z_aload_n dX8_draw_25 rfl ?_
      refine z_aload_n dX8_draw_26 rfl ?_
      refine z_iload_n dX8_draw_27 rfl ?_
      refine n_vN (as := [(2, 23), (0, v3)]) (rest := []) dX8_draw_28 zm_X8_turn zs_X8_34 k_75 (by decide) rfl rfl (Nat.le_of_ble_eq_true rfl) (Nat.le_of_ble_eq_true rfl) ((h.2 q2).2 q4) (fun m5 h6 => ?_)
      refine z_aload_n dX8_draw_31 rfl ?_
      refine n_vN (as := []) (rest := []) dX8_draw_32 zm_X8_sort zs_X8_38 k_75 (by decide) rfl rfl (Nat.le_of_ble_eq_true rfl) (Nat.le_of_ble_eq_true rfl) h6 (fun m7 h8 => ?_)
      refine z_iload_n dX8_draw_35 rfl ?_
      refine z_if_eq (tgt := 46) dX8_draw_36 (by decide) (fun q9 => ?_) (fun q10 => ?_)
      · refine z_aload_n dX8_draw_46 rfl ?_
        refine n_getp (ji := 2) dX8_draw_47 zf_X8_19 k_75 rfl (by decide) rfl p_75_2 ?_
        refine z_iconst dX8_draw_50 ⟨by decide, by decide⟩ ?_
        refine z_aload_n dX8_draw_51 rfl ?_
        refine n_getp (ji := 1) dX8_draw_52 zf_X8_15 k_75 rfl (by decide) rfl p_75_1 ?_
        refine z_iconst dX8_draw_55 ⟨by decide, by decide⟩ ?_
        refine z_aload_n dX8_draw_56 rfl ?_
        refine n_getf (ji := 0) (t := 0) dX8_draw_57 zf_X8_9 k_75 rfl (by decide) rfl ?_
        refine z_acopy dX8_draw_60 zq_975 zq_644 zq_643 zq_134 (Nat.le_of_ble_eq_true rfl) (z_isn k_77.1 (by decide)) (z_isn k_76.1 (by decide)) (by decide) (by decide) (h8.1 q9).1.1 (by rw [k_77.2]; have := (h8.1 q9).1; omega) (by rw [k_76.2]; have := (h8.1 q9).1; omega) ?_
        refine n_iinc (lo' := [some (2, 75), some (2, 23), none, some (0, v3 + 1)]) dX8_draw_63 rfl (by decide) (h8.1 q9).2.1 rfl ?_
        refine z_goto (tgt := 12) dX8_draw_66 (by decide) ?_
        refine z_drop [some (2, 75), some (2, 23), none, some (0, v3 + 1)] ⟨rfl, rfl, rfl, trivial⟩ ?_
        exact (h8.1 q9).2.2
      · refine z_aload_n dX8_draw_39 rfl ?_
        refine n_vI (as := []) (rest := []) dX8_draw_40 zm_X8_isTrialFirst zs_X8_41 k_75 (by decide) rfl rfl (Nat.le_of_ble_eq_true rfl) (Nat.le_of_ble_eq_true rfl) (h8.2 q10) (fun x13 m11 h12 => ?_)
        refine z_if_eq (tgt := 63) dX8_draw_43 (by decide) (fun q14 => ?_) (fun q15 => ?_)
        · refine n_iinc (lo' := [some (2, 75), some (2, 23), none, some (0, v3 + 1)]) dX8_draw_63 rfl (by decide) (h12.1 q14).1 rfl ?_
          refine z_goto (tgt := 12) dX8_draw_66 (by decide) ?_
          refine z_drop [some (2, 75), some (2, 23), none, some (0, v3 + 1)] ⟨rfl, rfl, rfl, trivial⟩ ?_
          exact (h12.1 q14).2
        · refine z_aload_n dX8_draw_46 rfl ?_
          refine n_getp (ji := 2) dX8_draw_47 zf_X8_19 k_75 rfl (by decide) rfl p_75_2 ?_
          refine z_iconst dX8_draw_50 ⟨by decide, by decide⟩ ?_
          refine z_aload_n dX8_draw_51 rfl ?_
          refine n_getp (ji := 1) dX8_draw_52 zf_X8_15 k_75 rfl (by decide) rfl p_75_1 ?_
          refine z_iconst dX8_draw_55 ⟨by decide, by decide⟩ ?_
          refine z_aload_n dX8_draw_56 rfl ?_
          refine n_getf (ji := 0) (t := 0) dX8_draw_57 zf_X8_9 k_75 rfl (by decide) rfl ?_
          refine z_acopy dX8_draw_60 zq_975 zq_644 zq_643 zq_134 (Nat.le_of_ble_eq_true rfl) (z_isn k_77.1 (by decide)) (z_isn k_76.1 (by decide)) (by decide) (by decide) (h12.2 q15).1.1 (by rw [k_77.2]; have := (h12.2 q15).1; omega) (by rw [k_76.2]; have := (h12.2 q15).1; omega) ?_
          refine n_iinc (lo' := [some (2, 75), some (2, 23), none, some (0, v3 + 1)]) dX8_draw_63 rfl (by decide) (h12.2 q15).2.1 rfl ?_
          refine z_goto (tgt := 12) dX8_draw_66 (by decide) ?_
          refine z_drop [some (2, 75), some (2, 23), none, some (0, v3 + 1)] ⟨rfl, rfl, rfl, trivial⟩ ?_
          exact (h12.2 q15).2.2
set_option maxRecDepth 20000 in
theorem V_X8_turn {a : Int}  {μ : z_Mem} {d : Nat} {K : z_Mem → Prop} (h : z_rn m_X8_turn 10 [some (2, 75), some (2, 23), some (0, a), some (0, 30), some (0, 30), some (0, 0), none, none] μ (d + 1) K) : z_cn m_X8_turn [(2, 75), (2, 23), (0, a)] μ (d + 1) K := by
  show z_R m_X8_turn 0 [some (2, 75), some (2, 23), some (0, a), none, none, none, none, none] [] z_n μ (d + 1) _
  refine z_bipush dX8_turn_0 (by decide) ?_
  refine n_istore_n (lo' := [some (2, 75), some (2, 23), some (0, a), some (0, 30), none, none, none, none]) dX8_turn_2 ⟨Nat.le_of_ble_eq_true rfl, Nat.le_of_ble_eq_true rfl⟩ rfl ?_
  refine z_bipush dX8_turn_3 (by decide) ?_
  refine n_istore (lo' := [some (2, 75), some (2, 23), some (0, a), some (0, 30), some (0, 30), none, none, none]) dX8_turn_5 ⟨Nat.le_of_ble_eq_true rfl, Nat.le_of_ble_eq_true rfl⟩ rfl ?_
  refine z_iconst dX8_turn_7 ⟨by decide, by decide⟩ ?_
  refine n_istore (lo' := [some (2, 75), some (2, 23), some (0, a), some (0, 30), some (0, 30), some (0, 0), none, none]) dX8_turn_8 ⟨Nat.le_of_ble_eq_true rfl, Nat.le_of_ble_eq_true rfl⟩ rfl ?_
  refine z_drop [some (2, 75), some (2, 23), some (0, a), some (0, 30), some (0, 30), some (0, 0), none, none] ⟨rfl, rfl, rfl, rfl, rfl, rfl, trivial⟩ ?_
  exact h
set_option maxRecDepth 20000 in
theorem V_X8_turn_10 {v2 v3 v4 v5 : Int}  {μ : z_Mem} {d : Nat} {K : z_Mem → Prop} (h : (μ 75 0 ≤ v5 → z_rn m_X8_turn 145 [some (2, 75), none, none, some (0, v3), some (0, v4), some (0, 0), none, none] μ (d + 1) K) ∧ (v5 < μ 75 0 → ((0 : Int) ≤ v2 ∧ (0 : Int) ≤ 4) ∧ ((¬ ((((v2 : Int).toNat &&& (4 : Int).toNat : Nat)) : Int) = 0 → ((0 : Int) ≤ v5 ∧ v5 < 30) ∧ (z_I (-(μ 24 v5)) ∧ (((0 : Int) ≤ v5 ∧ v5 < 30) ∧ (((0 : Int) ≤ v2 % 4 ∧ v2 % 4 < 4) ∧ (z_I ((-(μ 24 v5)) * (z_S 1 (v2 % 4))) ∧ (((0 : Int) ≤ v2 % 4 ∧ v2 % 4 < 4) ∧ (z_I ((μ 25 v5) * (z_S 2 (v2 % 4))) ∧ (z_I (((-(μ 24 v5)) * (z_S 1 (v2 % 4))) - ((μ 25 v5) * (z_S 2 (v2 % 4)))) ∧ (((0 : Int) ≤ v5 ∧ v5 < 30) ∧ (((0 : Int) ≤ v2 % 4 ∧ v2 % 4 < 4) ∧ (z_I ((-(μ 24 v5)) * (z_S 2 (v2 % 4))) ∧ (((0 : Int) ≤ v2 % 4 ∧ v2 % 4 < 4) ∧ (z_I ((μ 25 v5) * (z_S 1 (v2 % 4))) ∧ (z_I (((-(μ 24 v5)) * (z_S 2 (v2 % 4))) + ((μ 25 v5) * (z_S 1 (v2 % 4)))) ∧ (((0 : Int) ≤ v5 ∧ v5 < 30) ∧ (((0 : Int) ≤ v5 ∧ v5 < 30) ∧ (((0 : Int) ≤ v5 ∧ v5 < 30) ∧ (z_I (v5 + 1) ∧ (z_rn m_X8_turn 10 [some (2, 75), some (2, 23), some (0, v2), some (0, min v3 ((z_st (z_st μ 78 v5 (((-(μ 24 v5)) * (z_S 1 (v2 % 4))) - ((μ 25 v5) * (z_S 2 (v2 % 4))))) 79 v5 (((-(μ 24 v5)) * (z_S 2 (v2 % 4))) + ((μ 25 v5) * (z_S 1 (v2 % 4))))) 78 v5)), some (0, min v4 ((z_st (z_st μ 78 v5 (((-(μ 24 v5)) * (z_S 1 (v2 % 4))) - ((μ 25 v5) * (z_S 2 (v2 % 4))))) 79 v5 (((-(μ 24 v5)) * (z_S 2 (v2 % 4))) + ((μ 25 v5) * (z_S 1 (v2 % 4))))) 79 v5)), some (0, v5 + 1), none, none] (z_st (z_st μ 78 v5 (((-(μ 24 v5)) * (z_S 1 (v2 % 4))) - ((μ 25 v5) * (z_S 2 (v2 % 4))))) 79 v5 (((-(μ 24 v5)) * (z_S 2 (v2 % 4))) + ((μ 25 v5) * (z_S 1 (v2 % 4))))) (d + 1) K))))))))))))))))))) ∧ (((((v2 : Int).toNat &&& (4 : Int).toNat : Nat)) : Int) = 0 → ((0 : Int) ≤ v5 ∧ v5 < 30) ∧ (((0 : Int) ≤ v5 ∧ v5 < 30) ∧ (((0 : Int) ≤ v2 % 4 ∧ v2 % 4 < 4) ∧ (z_I ((μ 24 v5) * (z_S 1 (v2 % 4))) ∧ (((0 : Int) ≤ v2 % 4 ∧ v2 % 4 < 4) ∧ (z_I ((μ 25 v5) * (z_S 2 (v2 % 4))) ∧ (z_I (((μ 24 v5) * (z_S 1 (v2 % 4))) - ((μ 25 v5) * (z_S 2 (v2 % 4)))) ∧ (((0 : Int) ≤ v5 ∧ v5 < 30) ∧ (((0 : Int) ≤ v2 % 4 ∧ v2 % 4 < 4) ∧ (z_I ((μ 24 v5) * (z_S 2 (v2 % 4))) ∧ (((0 : Int) ≤ v2 % 4 ∧ v2 % 4 < 4) ∧ (z_I ((μ 25 v5) * (z_S 1 (v2 % 4))) ∧ (z_I (((μ 24 v5) * (z_S 2 (v2 % 4))) + ((μ 25 v5) * (z_S 1 (v2 % 4)))) ∧ (((0 : Int) ≤ v5 ∧ v5 < 30) ∧ (((0 : Int) ≤ v5 ∧ v5 < 30) ∧ (((0 : Int) ≤ v5 ∧ v5 < 30) ∧ (z_I (v5 + 1) ∧ (z_rn m_X8_turn 10 [some (2, 75), some (2, 23), some (0, v2), some (0, min v3 ((z_st (z_st μ 78 v5 (((μ 24 v5) * (z_S 1 (v2 % 4))) - ((μ 25 v5) * (z_S 2 (v2 % 4))))) 79 v5 (((μ 24 v5) * (z_S 2 (v2 % 4))) + ((μ 25 v5) * (z_S 1 (v2 % 4))))) 78 v5)), some (0, min v4 ((z_st (z_st μ 78 v5 (((μ 24 v5) * (z_S 1 (v2 % 4))) - ((μ 25 v5) * (z_S 2 (v2 % 4))))) 79 v5 (((μ 24 v5) * (z_S 2 (v2 % 4))) + ((μ 25 v5) * (z_S 1 (v2 % 4))))) 79 v5)), some (0, v5 + 1), none, none] (z_st (z_st μ 78 v5 (((μ 24 v5) * (z_S 1 (v2 % 4))) - ((μ 25 v5) * (z_S 2 (v2 % 4))))) 79 v5 (((μ 24 v5) * (z_S 2 (v2 % 4))) + ((μ 25 v5) * (z_S 1 (v2 % 4))))) (d + 1) K))))))))))))))))))))) : z_rn m_X8_turn 10 [some (2, 75), some (2, 23), some (0, v2), some (0, v3), some (0, v4), some (0, v5), none, none] μ (d + 1) K := by
  show z_R m_X8_turn 10 [some (2, 75), some (2, 23), some (0, v2), some (0, v3), some (0, v4), some (0, v5), none, none] [] z_n μ (d + 1) _
  refine z_iload dX8_turn_10 rfl ?_
  refine z_aload_n dX8_turn_12 rfl ?_
  refine n_getf (ji := 0) (t := 0) dX8_turn_13 zf_X8_9 k_75 rfl (by decide) rfl ?_
  refine z_icmp_ge (tgt := 142) dX8_turn_16 (by decide) (fun q1 => ?_) (fun q2 => ?_)
  · refine z_iconst dX8_turn_142 ⟨by decide, by decide⟩ ?_
    refine n_istore (lo' := [some (2, 75), some (2, 23), some (0, v2), some (0, v3), some (0, v4), some (0, 0), none, none]) dX8_turn_143 ⟨Nat.le_of_ble_eq_true rfl, Nat.le_of_ble_eq_true rfl⟩ rfl ?_
    refine z_drop [some (2, 75), none, none, some (0, v3), some (0, v4), some (0, 0), none, none] ⟨rfl, rfl, rfl, rfl, trivial⟩ ?_
    exact (h.1 q1)
  · refine z_iload_n dX8_turn_19 rfl ?_
    refine z_iconst dX8_turn_20 ⟨by decide, by decide⟩ ?_
    refine z_iand dX8_turn_21 (h.2 q2).1.1 (h.2 q2).1.2 ?_
    refine z_if_ne (tgt := 35) dX8_turn_22 (by decide) (fun q3 => ?_) (fun q4 => ?_)
    · refine z_aload_n dX8_turn_35 rfl ?_
      refine n_getp (ji := 0) dX8_turn_36 zf_X8_51 k_23 rfl (by decide) rfl p_23_0 ?_
      refine z_iload dX8_turn_39 rfl ?_
      refine n_iald dX8_turn_41 k_24 ((h.2 q2).2.1 q3).1 ?_
      refine z_ineg dX8_turn_42 ((h.2 q2).2.1 q3).2.1 ?_
      refine n_istore (lo' := [some (2, 75), some (2, 23), some (0, v2), some (0, v3), some (0, v4), some (0, v5), some (0, -(μ 24 v5)), none]) dX8_turn_43 ⟨Nat.le_of_ble_eq_true rfl, Nat.le_of_ble_eq_true rfl⟩ rfl ?_
      refine z_aload_n dX8_turn_45 rfl ?_
      refine n_getp (ji := 1) dX8_turn_46 zf_X8_56 k_23 rfl (by decide) rfl p_23_1 ?_
      refine z_iload dX8_turn_49 rfl ?_
      refine n_iald dX8_turn_51 k_25 ((h.2 q2).2.1 q3).2.2.1 ?_
      refine n_istore (lo' := [some (2, 75), some (2, 23), some (0, v2), some (0, v3), some (0, v4), some (0, v5), some (0, -(μ 24 v5)), some (0, μ 25 v5)]) dX8_turn_52 ⟨Nat.le_of_ble_eq_true rfl, Nat.le_of_ble_eq_true rfl⟩ rfl ?_
      refine z_aload_n dX8_turn_54 rfl ?_
      refine n_getp (ji := 3) dX8_turn_55 zf_X8_22 k_75 rfl (by decide) rfl p_75_3 ?_
      refine z_iload dX8_turn_58 rfl ?_
      refine z_iload dX8_turn_60 rfl ?_
      refine n_getsN (j := 1) (oj := 1002) dX8_turn_62 rfl zq_965 (by decide) ?_
      refine z_iload_n dX8_turn_65 rfl ?_
      refine z_iconst dX8_turn_66 ⟨by decide, by decide⟩ ?_
      refine n_iandm (k := 2) (m := 4) dX8_turn_67 (by decide) (by decide) ?_
      refine n_sald (j := 1) (L := 4) dX8_turn_68 rfl (by decide) (by decide) ((h.2 q2).2.1 q3).2.2.2.1 ?_
      refine z_imul dX8_turn_69 ((h.2 q2).2.1 q3).2.2.2.2.1 ?_
      refine z_iload dX8_turn_70 rfl ?_
      refine n_getsN (j := 2) (oj := 1003) dX8_turn_72 rfl zq_966 (by decide) ?_
      refine z_iload_n dX8_turn_75 rfl ?_
      refine z_iconst dX8_turn_76 ⟨by decide, by decide⟩ ?_
      refine n_iandm (k := 2) (m := 4) dX8_turn_77 (by decide) (by decide) ?_
      refine n_sald (j := 2) (L := 4) dX8_turn_78 rfl (by decide) (by decide) ((h.2 q2).2.1 q3).2.2.2.2.2.1 ?_
      refine z_imul dX8_turn_79 ((h.2 q2).2.1 q3).2.2.2.2.2.2.1 ?_
      refine z_isub dX8_turn_80 ((h.2 q2).2.1 q3).2.2.2.2.2.2.2.1 ?_
      refine n_iast dX8_turn_81 k_78 ((h.2 q2).2.1 q3).2.2.2.2.2.2.2.2.1 ?_
      refine z_aload_n dX8_turn_82 rfl ?_
      refine n_getp (ji := 4) dX8_turn_83 zf_X8_25 k_75 rfl (by decide) rfl p_75_4 ?_
      refine z_iload dX8_turn_86 rfl ?_
      refine z_iload dX8_turn_88 rfl ?_
      refine n_getsN (j := 2) (oj := 1003) dX8_turn_90 rfl zq_966 (by decide) ?_
      refine z_iload_n dX8_turn_93 rfl ?_
      refine z_iconst dX8_turn_94 ⟨by decide, by decide⟩ ?_
      refine n_iandm (k := 2) (m := 4) dX8_turn_95 (by decide) (by decide) ?_
      refine n_sald (j := 2) (L := 4) dX8_turn_96 rfl (by decide) (by decide) ((h.2 q2).2.1 q3).2.2.2.2.2.2.2.2.2.1 ?_
      refine z_imul dX8_turn_97 ((h.2 q2).2.1 q3).2.2.2.2.2.2.2.2.2.2.1 ?_
      refine z_iload dX8_turn_98 rfl ?_
      refine n_getsN (j := 1) (oj := 1002) dX8_turn_100 rfl zq_965 (by decide) ?_
      refine z_iload_n dX8_turn_103 rfl ?_
      refine z_iconst dX8_turn_104 ⟨by decide, by decide⟩ ?_
      refine n_iandm (k := 2) (m := 4) dX8_turn_105 (by decide) (by decide) ?_
      refine n_sald (j := 1) (L := 4) dX8_turn_106 rfl (by decide) (by decide) ((h.2 q2).2.1 q3).2.2.2.2.2.2.2.2.2.2.2.1 ?_
      refine z_imul dX8_turn_107 ((h.2 q2).2.1 q3).2.2.2.2.2.2.2.2.2.2.2.2.1 ?_
      refine z_iadd dX8_turn_108 ((h.2 q2).2.1 q3).2.2.2.2.2.2.2.2.2.2.2.2.2.1 ?_
      refine n_iast dX8_turn_109 k_79 ((h.2 q2).2.1 q3).2.2.2.2.2.2.2.2.2.2.2.2.2.2.1 ?_
      refine z_iload_n dX8_turn_110 rfl ?_
      refine z_aload_n dX8_turn_111 rfl ?_
      refine n_getp (ji := 3) dX8_turn_112 zf_X8_22 k_75 rfl (by decide) rfl p_75_3 ?_
      refine z_iload dX8_turn_115 rfl ?_
      refine n_iald dX8_turn_117 k_78 ((h.2 q2).2.1 q3).2.2.2.2.2.2.2.2.2.2.2.2.2.2.2.1 ?_
      refine z_mmin dX8_turn_118 zq_960 zq_592 zq_133 zq_593 (Nat.le_of_ble_eq_true rfl) ?_
      refine n_istore_n (lo' := [some (2, 75), some (2, 23), some (0, v2), some (0, min v3 ((z_st (z_st μ 78 v5 (((-(μ 24 v5)) * (z_S 1 (v2 % 4))) - ((μ 25 v5) * (z_S 2 (v2 % 4))))) 79 v5 (((-(μ 24 v5)) * (z_S 2 (v2 % 4))) + ((μ 25 v5) * (z_S 1 (v2 % 4))))) 78 v5)), some (0, v4), some (0, v5), some (0, -(μ 24 v5)), some (0, μ 25 v5)]) dX8_turn_121 ⟨Nat.le_of_ble_eq_true rfl, Nat.le_of_ble_eq_true rfl⟩ rfl ?_
      refine z_iload dX8_turn_122 rfl ?_
      refine z_aload_n dX8_turn_124 rfl ?_
      refine n_getp (ji := 4) dX8_turn_125 zf_X8_25 k_75 rfl (by decide) rfl p_75_4 ?_
      refine z_iload dX8_turn_128 rfl ?_
      refine n_iald dX8_turn_130 k_79 ((h.2 q2).2.1 q3).2.2.2.2.2.2.2.2.2.2.2.2.2.2.2.2.1 ?_
      refine z_mmin dX8_turn_131 zq_960 zq_592 zq_133 zq_593 (Nat.le_of_ble_eq_true rfl) ?_
      refine n_istore (lo' := [some (2, 75), some (2, 23), some (0, v2), some (0, min v3 ((z_st (z_st μ 78 v5 (((-(μ 24 v5)) * (z_S 1 (v2 % 4))) - ((μ 25 v5) * (z_S 2 (v2 % 4))))) 79 v5 (((-(μ 24 v5)) * (z_S 2 (v2 % 4))) + ((μ 25 v5) * (z_S 1 (v2 % 4))))) 78 v5)), some (0, min v4 ((z_st (z_st μ 78 v5 (((-(μ 24 v5)) * (z_S 1 (v2 % 4))) - ((μ 25 v5) * (z_S 2 (v2 % 4))))) 79 v5 (((-(μ 24 v5)) * (z_S 2 (v2 % 4))) + ((μ 25 v5) * (z_S 1 (v2 % 4))))) 79 v5)), some (0, v5), some (0, -(μ 24 v5)), some (0, μ 25 v5)]) dX8_turn_134 ⟨Nat.le_of_ble_eq_true rfl, Nat.le_of_ble_eq_true rfl⟩ rfl ?_
      refine n_iinc (lo' := [some (2, 75), some (2, 23), some (0, v2), some (0, min v3 ((z_st (z_st μ 78 v5 (((-(μ 24 v5)) * (z_S 1 (v2 % 4))) - ((μ 25 v5) * (z_S 2 (v2 % 4))))) 79 v5 (((-(μ 24 v5)) * (z_S 2 (v2 % 4))) + ((μ 25 v5) * (z_S 1 (v2 % 4))))) 78 v5)), some (0, min v4 ((z_st (z_st μ 78 v5 (((-(μ 24 v5)) * (z_S 1 (v2 % 4))) - ((μ 25 v5) * (z_S 2 (v2 % 4))))) 79 v5 (((-(μ 24 v5)) * (z_S 2 (v2 % 4))) + ((μ 25 v5) * (z_S 1 (v2 % 4))))) 79 v5)), some (0, v5 + 1), some (0, -(μ 24 v5)), some (0, μ 25 v5)]) dX8_turn_136 rfl (by decide) ((h.2 q2).2.1 q3).2.2.2.2.2.2.2.2.2.2.2.2.2.2.2.2.2.1 rfl ?_
      refine z_goto (tgt := 10) dX8_turn_139 (by decide) ?_
      refine z_drop [some (2, 75), some (2, 23), some (0, v2), some (0, min v3 ((z_st (z_st μ 78 v5 (((-(μ 24 v5)) * (z_S 1 (v2 % 4))) - ((μ 25 v5) * (z_S 2 (v2 % 4))))) 79 v5 (((-(μ 24 v5)) * (z_S 2 (v2 % 4))) + ((μ 25 v5) * (z_S 1 (v2 % 4))))) 78 v5)), some (0, min v4 ((z_st (z_st μ 78 v5 (((-(μ 24 v5)) * (z_S 1 (v2 % 4))) - ((μ 25 v5) * (z_S 2 (v2 % 4))))) 79 v5 (((-(μ 24 v5)) * (z_S 2 (v2 % 4))) + ((μ 25 v5) * (z_S 1 (v2 % 4))))) 79 v5)), some (0, v5 + 1), none, none] ⟨rfl, rfl, rfl, rfl, rfl, rfl, trivial⟩ ?_
      exact ((h.2 q2).2.1 q3).2.2.2.2.2.2.2.2.2.2.2.2.2.2.2.2.2.2
    · refine z_aload_n dX8_turn_25 rfl ?_
      refine n_getp (ji := 0) dX8_turn_26 zf_X8_51 k_23 rfl (by decide) rfl p_23_0 ?_
      refine z_iload dX8_turn_29 rfl ?_
      refine n_iald dX8_turn_31 k_24 ((h.2 q2).2.2 q4).1 ?_
      refine z_goto (tgt := 43) dX8_turn_32 (by decide) ?_
      refine n_istore (lo' := [some (2, 75), some (2, 23), some (0, v2), some (0, v3), some (0, v4), some (0, v5), some (0, μ 24 v5), none]) dX8_turn_43 ⟨Nat.le_of_ble_eq_true rfl, Nat.le_of_ble_eq_true rfl⟩ rfl ?_
      refine z_aload_n dX8_turn_45 rfl ?_
      refine n_getp (ji := 1) dX8_turn_46 zf_X8_56 k_23 rfl (by decide) rfl p_23_1 ?_
      refine z_iload dX8_turn_49 rfl ?_
      refine n_iald dX8_turn_51 k_25 ((h.2 q2).2.2 q4).2.1 ?_
      refine n_istore (lo' := [some (2, 75), some (2, 23), some (0, v2), some (0, v3), some (0, v4), some (0, v5), some (0, μ 24 v5), some (0, μ 25 v5)]) dX8_turn_52 ⟨Nat.le_of_ble_eq_true rfl, Nat.le_of_ble_eq_true rfl⟩ rfl ?_
      refine z_aload_n dX8_turn_54 rfl ?_
      refine n_getp (ji := 3) dX8_turn_55 zf_X8_22 k_75 rfl (by decide) rfl p_75_3 ?_
      refine z_iload dX8_turn_58 rfl ?_
      refine z_iload dX8_turn_60 rfl ?_
      refine n_getsN (j := 1) (oj := 1002) dX8_turn_62 rfl zq_965 (by decide) ?_
      refine z_iload_n dX8_turn_65 rfl ?_
      refine z_iconst dX8_turn_66 ⟨by decide, by decide⟩ ?_
      refine n_iandm (k := 2) (m := 4) dX8_turn_67 (by decide) (by decide) ?_
      refine n_sald (j := 1) (L := 4) dX8_turn_68 rfl (by decide) (by decide) ((h.2 q2).2.2 q4).2.2.1 ?_
      refine z_imul dX8_turn_69 ((h.2 q2).2.2 q4).2.2.2.1 ?_
      refine z_iload dX8_turn_70 rfl ?_
      refine n_getsN (j := 2) (oj := 1003) dX8_turn_72 rfl zq_966 (by decide) ?_
      refine z_iload_n dX8_turn_75 rfl ?_
      refine z_iconst dX8_turn_76 ⟨by decide, by decide⟩ ?_
      refine n_iandm (k := 2) (m := 4) dX8_turn_77 (by decide) (by decide) ?_
      refine n_sald (j := 2) (L := 4) dX8_turn_78 rfl (by decide) (by decide) ((h.2 q2).2.2 q4).2.2.2.2.1 ?_
      refine z_imul dX8_turn_79 ((h.2 q2).2.2 q4).2.2.2.2.2.1 ?_
      refine z_isub dX8_turn_80 ((h.2 q2).2.2 q4).2.2.2.2.2.2.1 ?_
      refine n_iast dX8_turn_81 k_78 ((h.2 q2).2.2 q4).2.2.2.2.2.2.2.1 ?_
      refine z_aload_n dX8_turn_82 rfl ?_
      refine n_getp (ji := 4) dX8_turn_83 zf_X8_25 k_75 rfl (by decide) rfl p_75_4 ?_
      refine z_iload dX8_turn_86 rfl ?_
      refine z_iload dX8_turn_88 rfl ?_
      refine n_getsN (j := 2) (oj := 1003) dX8_turn_90 rfl zq_966 (by decide) ?_
      refine z_iload_n dX8_turn_93 rfl ?_
      refine z_iconst dX8_turn_94 ⟨by decide, by decide⟩ ?_
      refine n_iandm (k := 2) (m := 4) dX8_turn_95 (by decide) (by decide) ?_
      refine n_sald (j := 2) (L := 4) dX8_turn_96 rfl (by decide) (by decide) ((h.2 q2).2.2 q4).2.2.2.2.2.2.2.2.1 ?_
      refine z_imul dX8_turn_97 ((h.2 q2).2.2 q4).2.2.2.2.2.2.2.2.2.1 ?_
      refine z_iload dX8_turn_98 rfl ?_
      refine n_getsN (j := 1) (oj := 1002) dX8_turn_100 rfl zq_965 (by decide) ?_
      refine z_iload_n dX8_turn_103 rfl ?_
      refine z_iconst dX8_turn_104 ⟨by decide, by decide⟩ ?_
      refine n_iandm (k := 2) (m := 4) dX8_turn_105 (by decide) (by decide) ?_
      refine n_sald (j := 1) (L := 4) dX8_turn_106 rfl (by decide) (by decide) ((h.2 q2).2.2 q4).2.2.2.2.2.2.2.2.2.2.1 ?_
      refine z_imul dX8_turn_107 ((h.2 q2).2.2 q4).2.2.2.2.2.2.2.2.2.2.2.1 ?_
      refine z_iadd dX8_turn_108 ((h.2 q2).2.2 q4).2.2.2.2.2.2.2.2.2.2.2.2.1 ?_
      refine n_iast dX8_turn_109 k_79 ((h.2 q2).2.2 q4).2.2.2.2.2.2.2.2.2.2.2.2.2.1 ?_
      refine z_iload_n dX8_turn_110 rfl ?_
      refine z_aload_n dX8_turn_111 rfl ?_
      refine n_getp (ji := 3) dX8_turn_112 zf_X8_22 k_75 rfl (by decide) rfl p_75_3 ?_
      refine z_iload dX8_turn_115 rfl ?_
      refine n_iald dX8_turn_117 k_78 ((h.2 q2).2.2 q4).2.2.2.2.2.2.2.2.2.2.2.2.2.2.1 ?_
      refine z_mmin dX8_turn_118 zq_960 zq_592 zq_133 zq_593 (Nat.le_of_ble_eq_true rfl) ?_
      refine n_istore_n (lo' := [some (2, 75), some (2, 23), some (0, v2), some (0, min v3 ((z_st (z_st μ 78 v5 (((μ 24 v5) * (z_S 1 (v2 % 4))) - ((μ 25 v5) * (z_S 2 (v2 % 4))))) 79 v5 (((μ 24 v5) * (z_S 2 (v2 % 4))) + ((μ 25 v5) * (z_S 1 (v2 % 4))))) 78 v5)), some (0, v4), some (0, v5), some (0, μ 24 v5), some (0, μ 25 v5)]) dX8_turn_121 ⟨Nat.le_of_ble_eq_true rfl, Nat.le_of_ble_eq_true rfl⟩ rfl ?_
      refine z_iload dX8_turn_122 rfl ?_
      refine z_aload_n dX8_turn_124 rfl ?_
      refine n_getp (ji := 4) dX8_turn_125 zf_X8_25 k_75 rfl (by decide) rfl p_75_4 ?_
      refine z_iload dX8_turn_128 rfl ?_
      refine n_iald dX8_turn_130 k_79 ((h.2 q2).2.2 q4).2.2.2.2.2.2.2.2.2.2.2.2.2.2.2.1 ?_
      refine z_mmin dX8_turn_131 zq_960 zq_592 zq_133 zq_593 (Nat.le_of_ble_eq_true rfl) ?_
      refine n_istore (lo' := [some (2, 75), some (2, 23), some (0, v2), some (0, min v3 ((z_st (z_st μ 78 v5 (((μ 24 v5) * (z_S 1 (v2 % 4))) - ((μ 25 v5) * (z_S 2 (v2 % 4))))) 79 v5 (((μ 24 v5) * (z_S 2 (v2 % 4))) + ((μ 25 v5) * (z_S 1 (v2 % 4))))) 78 v5)), some (0, min v4 ((z_st (z_st μ 78 v5 (((μ 24 v5) * (z_S 1 (v2 % 4))) - ((μ 25 v5) * (z_S 2 (v2 % 4))))) 79 v5 (((μ 24 v5) * (z_S 2 (v2 % 4))) + ((μ 25 v5) * (z_S 1 (v2 % 4))))) 79 v5)), some (0, v5), some (0, μ 24 v5), some (0, μ 25 v5)]) dX8_turn_134 ⟨Nat.le_of_ble_eq_true rfl, Nat.le_of_ble_eq_true rfl⟩ rfl ?_
      refine n_iinc (lo' := [some (2, 75), some (2, 23), some (0, v2), some (0, min v3 ((z_st (z_st μ 78 v5 (((μ 24 v5) * (z_S 1 (v2 % 4))) - ((μ 25 v5) * (z_S 2 (v2 % 4))))) 79 v5 (((μ 24 v5) * (z_S 2 (v2 % 4))) + ((μ 25 v5) * (z_S 1 (v2 % 4))))) 78 v5)), some (0, min v4 ((z_st (z_st μ 78 v5 (((μ 24 v5) * (z_S 1 (v2 % 4))) - ((μ 25 v5) * (z_S 2 (v2 % 4))))) 79 v5 (((μ 24 v5) * (z_S 2 (v2 % 4))) + ((μ 25 v5) * (z_S 1 (v2 % 4))))) 79 v5)), some (0, v5 + 1), some (0, μ 24 v5), some (0, μ 25 v5)]) dX8_turn_136 rfl (by decide) ((h.2 q2).2.2 q4).2.2.2.2.2.2.2.2.2.2.2.2.2.2.2.2.1 rfl ?_
      refine z_goto (tgt := 10) dX8_turn_139 (by decide) ?_
      refine z_drop [some (2, 75), some (2, 23), some (0, v2), some (0, min v3 ((z_st (z_st μ 78 v5 (((μ 24 v5) * (z_S 1 (v2 % 4))) - ((μ 25 v5) * (z_S 2 (v2 % 4))))) 79 v5 (((μ 24 v5) * (z_S 2 (v2 % 4))) + ((μ 25 v5) * (z_S 1 (v2 % 4))))) 78 v5)), some (0, min v4 ((z_st (z_st μ 78 v5 (((μ 24 v5) * (z_S 1 (v2 % 4))) - ((μ 25 v5) * (z_S 2 (v2 % 4))))) 79 v5 (((μ 24 v5) * (z_S 2 (v2 % 4))) + ((μ 25 v5) * (z_S 1 (v2 % 4))))) 79 v5)), some (0, v5 + 1), none, none] ⟨rfl, rfl, rfl, rfl, rfl, rfl, trivial⟩ ?_
      exact ((h.2 q2).2.2 q4).2.2.2.2.2.2.2.2.2.2.2.2.2.2.2.2.2
set_option maxRecDepth 20000 in
theorem V_X8_turn_145 {v3 v4 v5 : Int}  {μ : z_Mem} {d : Nat} {K : z_Mem → Prop} (h : (μ 75 0 ≤ v5 → K μ) ∧ (v5 < μ 75 0 → ((0 : Int) ≤ v5 ∧ v5 < 30) ∧ (z_I ((μ 79 v5) - v4) ∧ (z_I (64 * ((μ 79 v5) - v4)) ∧ (((0 : Int) ≤ v5 ∧ v5 < 30) ∧ (z_I ((64 * ((μ 79 v5) - v4)) + (μ 78 v5)) ∧ (z_I (((64 * ((μ 79 v5) - v4)) + (μ 78 v5)) - v3) ∧ (((0 : Int) ≤ v5 ∧ v5 < 30) ∧ (z_I (v5 + 1) ∧ (z_rn m_X8_turn 145 [some (2, 75), none, none, some (0, v3), some (0, v4), some (0, v5 + 1), none, none] (z_st μ 77 v5 (((64 * ((μ 79 v5) - v4)) + (μ 78 v5)) - v3)) (d + 1) K)))))))))) : z_rn m_X8_turn 145 [some (2, 75), none, none, some (0, v3), some (0, v4), some (0, v5), none, none] μ (d + 1) K := by
  show z_R m_X8_turn 145 [some (2, 75), none, none, some (0, v3), some (0, v4), some (0, v5), none, none] [] z_n μ (d + 1) _
  refine z_iload dX8_turn_145 rfl ?_
  refine z_aload_n dX8_turn_147 rfl ?_
  refine n_getf (ji := 0) (t := 0) dX8_turn_148 zf_X8_9 k_75 rfl (by decide) rfl ?_
  refine z_icmp_ge (tgt := 190) dX8_turn_151 (by decide) (fun q1 => ?_) (fun q2 => ?_)
  · exact z_return dX8_turn_190 rfl rfl ⟨rfl, (h.1 q1)⟩
  · refine z_aload_n dX8_turn_154 rfl ?_
    refine n_getp (ji := 2) dX8_turn_155 zf_X8_19 k_75 rfl (by decide) rfl p_75_2 ?_
    refine z_iload dX8_turn_158 rfl ?_
    refine z_bipush dX8_turn_160 (by decide) ?_
    refine z_aload_n dX8_turn_162 rfl ?_
    refine n_getp (ji := 4) dX8_turn_163 zf_X8_25 k_75 rfl (by decide) rfl p_75_4 ?_
    refine z_iload dX8_turn_166 rfl ?_
    refine n_iald dX8_turn_168 k_79 (h.2 q2).1 ?_
    refine z_iload dX8_turn_169 rfl ?_
    refine z_isub dX8_turn_171 (h.2 q2).2.1 ?_
    refine z_imul dX8_turn_172 (h.2 q2).2.2.1 ?_
    refine z_aload_n dX8_turn_173 rfl ?_
    refine n_getp (ji := 3) dX8_turn_174 zf_X8_22 k_75 rfl (by decide) rfl p_75_3 ?_
    refine z_iload dX8_turn_177 rfl ?_
    refine n_iald dX8_turn_179 k_78 (h.2 q2).2.2.2.1 ?_
    refine z_iadd dX8_turn_180 (h.2 q2).2.2.2.2.1 ?_
    refine z_iload_n dX8_turn_181 rfl ?_
    refine z_isub dX8_turn_182 (h.2 q2).2.2.2.2.2.1 ?_
    refine n_iast dX8_turn_183 k_77 (h.2 q2).2.2.2.2.2.2.1 ?_
    refine n_iinc (lo' := [some (2, 75), none, none, some (0, v3), some (0, v4), some (0, v5 + 1), none, none]) dX8_turn_184 rfl (by decide) (h.2 q2).2.2.2.2.2.2.2.1 rfl ?_
    refine z_goto (tgt := 145) dX8_turn_187 (by decide) ?_
    refine z_drop [some (2, 75), none, none, some (0, v3), some (0, v4), some (0, v5 + 1), none, none] ⟨rfl, rfl, rfl, rfl, trivial⟩ ?_
    exact (h.2 q2).2.2.2.2.2.2.2.2
set_option maxRecDepth 20000 in
theorem V_X8_sort  {μ : z_Mem} {d : Nat} {K : z_Mem → Prop} (h : z_rn m_X8_sort 2 [some (2, 75), some (0, 1), none, none] μ d K) : z_cn m_X8_sort [(2, 75)] μ d K := by
  show z_R m_X8_sort 0 [some (2, 75), none, none, none] [] z_n μ d _
  refine z_iconst dX8_sort_0 ⟨by decide, by decide⟩ ?_
  refine n_istore_n (lo' := [some (2, 75), some (0, 1), none, none]) dX8_sort_1 ⟨Nat.le_of_ble_eq_true rfl, Nat.le_of_ble_eq_true rfl⟩ rfl ?_
  refine z_drop [some (2, 75), some (0, 1), none, none] ⟨rfl, rfl, trivial⟩ ?_
  exact h
set_option maxRecDepth 20000 in
theorem V_X8_sort_2 {v1 : Int}  {μ : z_Mem} {d : Nat} {K : z_Mem → Prop} (h : (μ 75 0 ≤ v1 → K μ) ∧ (v1 < μ 75 0 → ((0 : Int) ≤ v1 ∧ v1 < 30) ∧ (z_rn m_X8_sort 19 [some (2, 75), some (0, v1), some (0, μ 77 v1), some (0, v1)] μ d K))) : z_rn m_X8_sort 2 [some (2, 75), some (0, v1), none, none] μ d K := by
  show z_R m_X8_sort 2 [some (2, 75), some (0, v1), none, none] [] z_n μ d _
  refine z_iload_n dX8_sort_2 rfl ?_
  refine z_aload_n dX8_sort_3 rfl ?_
  refine n_getf (ji := 0) (t := 0) dX8_sort_4 zf_X8_9 k_75 rfl (by decide) rfl ?_
  refine z_icmp_ge (tgt := 68) dX8_sort_7 (by decide) (fun q1 => ?_) (fun q2 => ?_)
  · exact z_return dX8_sort_68 rfl rfl ⟨rfl, (h.1 q1)⟩
  · refine z_aload_n dX8_sort_10 rfl ?_
    refine n_getp (ji := 2) dX8_sort_11 zf_X8_19 k_75 rfl (by decide) rfl p_75_2 ?_
    refine z_iload_n dX8_sort_14 rfl ?_
    refine n_iald dX8_sort_15 k_77 (h.2 q2).1 ?_
    refine n_istore_n (lo' := [some (2, 75), some (0, v1), some (0, μ 77 v1), none]) dX8_sort_16 ⟨Nat.le_of_ble_eq_true rfl, Nat.le_of_ble_eq_true rfl⟩ rfl ?_
    refine z_iload_n dX8_sort_17 rfl ?_
    refine n_istore_n (lo' := [some (2, 75), some (0, v1), some (0, μ 77 v1), some (0, v1)]) dX8_sort_18 ⟨Nat.le_of_ble_eq_true rfl, Nat.le_of_ble_eq_true rfl⟩ rfl ?_
    refine z_drop [some (2, 75), some (0, v1), some (0, μ 77 v1), some (0, v1)] ⟨rfl, rfl, rfl, rfl, trivial⟩ ?_
    exact (h.2 q2).2
set_option maxRecDepth 20000 in
theorem V_X8_sort_19 {v1 v2 v3 : Int}  {μ : z_Mem} {d : Nat} {K : z_Mem → Prop} (h : (v3 ≤ 0 → ((0 : Int) ≤ v3 ∧ v3 < 30) ∧ (z_I (v1 + 1) ∧ (z_rn m_X8_sort 2 [some (2, 75), some (0, v1 + 1), none, none] (z_st μ 77 v3 v2) d K))) ∧ (0 < v3 → z_I (v3 - 1) ∧ (((0 : Int) ≤ v3 - 1 ∧ v3 - 1 < 30) ∧ ((μ 77 (v3 - 1) ≤ v2 → ((0 : Int) ≤ v3 ∧ v3 < 30) ∧ (z_I (v1 + 1) ∧ (z_rn m_X8_sort 2 [some (2, 75), some (0, v1 + 1), none, none] (z_st μ 77 v3 v2) d K))) ∧ (v2 < μ 77 (v3 - 1) → z_I (v3 - 1) ∧ (((0 : Int) ≤ v3 - 1 ∧ v3 - 1 < 30) ∧ (((0 : Int) ≤ v3 ∧ v3 < 30) ∧ (z_I (v3 + (-1)) ∧ (z_rn m_X8_sort 19 [some (2, 75), some (0, v1), some (0, v2), some (0, v3 + (-1))] (z_st μ 77 v3 (μ 77 (v3 - 1))) d K))))))))) : z_rn m_X8_sort 19 [some (2, 75), some (0, v1), some (0, v2), some (0, v3)] μ d K := by
  show z_R m_X8_sort 19 [some (2, 75), some (0, v1), some (0, v2), some (0, v3)] [] z_n μ d _
  refine z_iload_n dX8_sort_19 rfl ?_
  refine z_if_le (tgt := 55) dX8_sort_20 (by decide) (fun q1 => ?_) (fun q2 => ?_)
  · refine z_aload_n dX8_sort_55 rfl ?_
    refine n_getp (ji := 2) dX8_sort_56 zf_X8_19 k_75 rfl (by decide) rfl p_75_2 ?_
    refine z_iload_n dX8_sort_59 rfl ?_
    refine z_iload_n dX8_sort_60 rfl ?_
    refine n_iast dX8_sort_61 k_77 (h.1 q1).1 ?_
    refine n_iinc (lo' := [some (2, 75), some (0, v1 + 1), some (0, v2), some (0, v3)]) dX8_sort_62 rfl (by decide) (h.1 q1).2.1 rfl ?_
    refine z_goto (tgt := 2) dX8_sort_65 (by decide) ?_
    refine z_drop [some (2, 75), some (0, v1 + 1), none, none] ⟨rfl, rfl, trivial⟩ ?_
    exact (h.1 q1).2.2
  · refine z_aload_n dX8_sort_23 rfl ?_
    refine n_getp (ji := 2) dX8_sort_24 zf_X8_19 k_75 rfl (by decide) rfl p_75_2 ?_
    refine z_iload_n dX8_sort_27 rfl ?_
    refine z_iconst dX8_sort_28 ⟨by decide, by decide⟩ ?_
    refine z_isub dX8_sort_29 (h.2 q2).1 ?_
    refine n_iald dX8_sort_30 k_77 (h.2 q2).2.1 ?_
    refine z_iload_n dX8_sort_31 rfl ?_
    refine z_icmp_le (tgt := 55) dX8_sort_32 (by decide) (fun q3 => ?_) (fun q4 => ?_)
    · refine z_aload_n dX8_sort_55 rfl ?_
      refine n_getp (ji := 2) dX8_sort_56 zf_X8_19 k_75 rfl (by decide) rfl p_75_2 ?_
      refine z_iload_n dX8_sort_59 rfl ?_
      refine z_iload_n dX8_sort_60 rfl ?_
      refine n_iast dX8_sort_61 k_77 ((h.2 q2).2.2.1 q3).1 ?_
      refine n_iinc (lo' := [some (2, 75), some (0, v1 + 1), some (0, v2), some (0, v3)]) dX8_sort_62 rfl (by decide) ((h.2 q2).2.2.1 q3).2.1 rfl ?_
      refine z_goto (tgt := 2) dX8_sort_65 (by decide) ?_
      refine z_drop [some (2, 75), some (0, v1 + 1), none, none] ⟨rfl, rfl, trivial⟩ ?_
      exact ((h.2 q2).2.2.1 q3).2.2
    · refine z_aload_n dX8_sort_35 rfl ?_
      refine n_getp (ji := 2) dX8_sort_36 zf_X8_19 k_75 rfl (by decide) rfl p_75_2 ?_
      refine z_iload_n dX8_sort_39 rfl ?_
      refine z_aload_n dX8_sort_40 rfl ?_
      refine n_getp (ji := 2) dX8_sort_41 zf_X8_19 k_75 rfl (by decide) rfl p_75_2 ?_
      refine z_iload_n dX8_sort_44 rfl ?_
      refine z_iconst dX8_sort_45 ⟨by decide, by decide⟩ ?_
      refine z_isub dX8_sort_46 ((h.2 q2).2.2.2 q4).1 ?_
      refine n_iald dX8_sort_47 k_77 ((h.2 q2).2.2.2 q4).2.1 ?_
      refine n_iast dX8_sort_48 k_77 ((h.2 q2).2.2.2 q4).2.2.1 ?_
      refine n_iinc (lo' := [some (2, 75), some (0, v1), some (0, v2), some (0, v3 + (-1))]) dX8_sort_49 rfl (by decide) ((h.2 q2).2.2.2 q4).2.2.2.1 rfl ?_
      refine z_goto (tgt := 19) dX8_sort_52 (by decide) ?_
      refine z_drop [some (2, 75), some (0, v1), some (0, v2), some (0, v3 + (-1))] ⟨rfl, rfl, rfl, rfl, trivial⟩ ?_
      exact ((h.2 q2).2.2.2 q4).2.2.2.2
set_option maxRecDepth 20000 in
theorem V_X8_isTrialFirst  {μ : z_Mem} {d : Nat} {K : Int → z_Mem → Prop} (h : z_ri m_X8_isTrialFirst 2 [some (2, 75), some (0, 0)] μ d K) : z_ci m_X8_isTrialFirst [(2, 75)] μ d K := by
  show z_R m_X8_isTrialFirst 0 [some (2, 75), none] [] z_n μ d _
  refine z_iconst dX8_isTrialFirst_0 ⟨by decide, by decide⟩ ?_
  refine n_istore_n (lo' := [some (2, 75), some (0, 0)]) dX8_isTrialFirst_1 ⟨Nat.le_of_ble_eq_true rfl, Nat.le_of_ble_eq_true rfl⟩ rfl ?_
  refine z_drop [some (2, 75), some (0, 0)] ⟨rfl, rfl, trivial⟩ ?_
  exact h
set_option maxRecDepth 20000 in
theorem V_X8_isTrialFirst_2 {v1 : Int}  {μ : z_Mem} {d : Nat} {K : Int → z_Mem → Prop} (h : (μ 75 0 ≤ v1 → K 0 μ) ∧ (v1 < μ 75 0 → ((0 : Int) ≤ v1 ∧ v1 < 30) ∧ (((0 : Int) ≤ v1 ∧ v1 < 30) ∧ ((μ 77 v1 = μ 76 v1 → z_I (v1 + 1) ∧ (z_ri m_X8_isTrialFirst 2 [some (2, 75), some (0, v1 + 1)] μ d K)) ∧ (¬ μ 77 v1 = μ 76 v1 → ((0 : Int) ≤ v1 ∧ v1 < 30) ∧ (((0 : Int) ≤ v1 ∧ v1 < 30) ∧ ((μ 76 v1 ≤ μ 77 v1 → K 0 μ) ∧ (μ 77 v1 < μ 76 v1 → K 1 μ)))))))) : z_ri m_X8_isTrialFirst 2 [some (2, 75), some (0, v1)] μ d K := by
  show z_R m_X8_isTrialFirst 2 [some (2, 75), some (0, v1)] [] z_n μ d _
  refine z_iload_n dX8_isTrialFirst_2 rfl ?_
  refine z_aload_n dX8_isTrialFirst_3 rfl ?_
  refine n_getf (ji := 0) (t := 0) dX8_isTrialFirst_4 zf_X8_9 k_75 rfl (by decide) rfl ?_
  refine z_icmp_ge (tgt := 52) dX8_isTrialFirst_7 (by decide) (fun q1 => ?_) (fun q2 => ?_)
  · refine z_iconst dX8_isTrialFirst_52 ⟨by decide, by decide⟩ ?_
    exact z_zreturn dX8_isTrialFirst_53 rfl rfl (by decide) ⟨_, rfl, (h.1 q1)⟩
  · refine z_aload_n dX8_isTrialFirst_10 rfl ?_
    refine n_getp (ji := 2) dX8_isTrialFirst_11 zf_X8_19 k_75 rfl (by decide) rfl p_75_2 ?_
    refine z_iload_n dX8_isTrialFirst_14 rfl ?_
    refine n_iald dX8_isTrialFirst_15 k_77 (h.2 q2).1 ?_
    refine z_aload_n dX8_isTrialFirst_16 rfl ?_
    refine n_getp (ji := 1) dX8_isTrialFirst_17 zf_X8_15 k_75 rfl (by decide) rfl p_75_1 ?_
    refine z_iload_n dX8_isTrialFirst_20 rfl ?_
    refine n_iald dX8_isTrialFirst_21 k_76 (h.2 q2).2.1 ?_
    refine z_icmp_eq (tgt := 46) dX8_isTrialFirst_22 (by decide) (fun q3 => ?_) (fun q4 => ?_)
    · refine n_iinc (lo' := [some (2, 75), some (0, v1 + 1)]) dX8_isTrialFirst_46 rfl (by decide) ((h.2 q2).2.2.1 q3).1 rfl ?_
      refine z_goto (tgt := 2) dX8_isTrialFirst_49 (by decide) ?_
      refine z_drop [some (2, 75), some (0, v1 + 1)] ⟨rfl, rfl, trivial⟩ ?_
      exact ((h.2 q2).2.2.1 q3).2
    · refine z_aload_n dX8_isTrialFirst_25 rfl ?_
      refine n_getp (ji := 2) dX8_isTrialFirst_26 zf_X8_19 k_75 rfl (by decide) rfl p_75_2 ?_
      refine z_iload_n dX8_isTrialFirst_29 rfl ?_
      refine n_iald dX8_isTrialFirst_30 k_77 ((h.2 q2).2.2.2 q4).1 ?_
      refine z_aload_n dX8_isTrialFirst_31 rfl ?_
      refine n_getp (ji := 1) dX8_isTrialFirst_32 zf_X8_15 k_75 rfl (by decide) rfl p_75_1 ?_
      refine z_iload_n dX8_isTrialFirst_35 rfl ?_
      refine n_iald dX8_isTrialFirst_36 k_76 ((h.2 q2).2.2.2 q4).2.1 ?_
      refine z_icmp_ge (tgt := 44) dX8_isTrialFirst_37 (by decide) (fun q5 => ?_) (fun q6 => ?_)
      · refine z_iconst dX8_isTrialFirst_44 ⟨by decide, by decide⟩ ?_
        exact z_zreturn dX8_isTrialFirst_45 rfl rfl (by decide) ⟨_, rfl, (((h.2 q2).2.2.2 q4).2.2.1 q5)⟩
      · refine z_iconst dX8_isTrialFirst_40 ⟨by decide, by decide⟩ ?_
        refine z_goto (tgt := 45) dX8_isTrialFirst_41 (by decide) ?_
        exact z_zreturn dX8_isTrialFirst_45 rfl rfl (by decide) ⟨_, rfl, (((h.2 q2).2.2.2 q4).2.2.2 q6)⟩
set_option maxRecDepth 20000 in
theorem V_X8_number  {μ : z_Mem} {d : Nat} {K : Int → z_Mem → Prop} (h : (¬ μ 75 0 = 0 → z_rl m_X8_number 15 [some (2, 75), some (1, 17), none, some (0, 0)] μ d K) ∧ (μ 75 0 = 0 → K 0 μ)) : z_cl' m_X8_number [(2, 75)] μ d K := by
  show z_R m_X8_number 0 [some (2, 75), none, none, none] [] z_n μ d _
  refine z_aload_n dX8_number_0 rfl ?_
  refine n_getf (ji := 0) (t := 0) dX8_number_1 zf_X8_9 k_75 rfl (by decide) rfl ?_
  refine z_if_ne (tgt := 9) dX8_number_4 (by decide) (fun q1 => ?_) (fun q2 => ?_)
  · refine z_ldc2 (n := 17) dX8_number_9 zc_1173 ⟨by decide, by decide⟩ ?_
    refine n_lstore_n (lo' := [some (2, 75), some (1, 17), none, none]) dX8_number_12 ⟨Nat.le_of_ble_eq_true rfl, Nat.le_of_ble_eq_true rfl⟩ rfl ?_
    refine z_iconst dX8_number_13 ⟨by decide, by decide⟩ ?_
    refine n_istore_n (lo' := [some (2, 75), some (1, 17), none, some (0, 0)]) dX8_number_14 ⟨Nat.le_of_ble_eq_true rfl, Nat.le_of_ble_eq_true rfl⟩ rfl ?_
    refine z_drop [some (2, 75), some (1, 17), none, some (0, 0)] ⟨rfl, rfl, rfl, trivial⟩ ?_
    exact (h.1 q1)
  · refine z_lconst0 dX8_number_7 ?_
    exact z_lreturn dX8_number_8 rfl rfl ⟨_, rfl, (h.2 q2)⟩
set_option maxRecDepth 20000 in
theorem V_X8_number_15 {v1 v3 : Int}  {μ : z_Mem} {d : Nat} {K : Int → z_Mem → Prop} (h : (μ 75 0 ≤ v3 → K v1 μ) ∧ (v3 < μ 75 0 → ((0 : Int) ≤ v3 ∧ v3 < 30) ∧ (z_I (v3 + 1) ∧ (z_rl m_X8_number 15 [some (2, 75), some (1, Int.bmod ((Int.bmod (31 * v1) 18446744073709551616) + (μ 76 v3)) 18446744073709551616), none, some (0, v3 + 1)] μ d K)))) : z_rl m_X8_number 15 [some (2, 75), some (1, v1), none, some (0, v3)] μ d K := by
  show z_R m_X8_number 15 [some (2, 75), some (1, v1), none, some (0, v3)] [] z_n μ d _
  refine z_iload_n dX8_number_15 rfl ?_
  refine z_aload_n dX8_number_16 rfl ?_
  refine n_getf (ji := 0) (t := 0) dX8_number_17 zf_X8_9 k_75 rfl (by decide) rfl ?_
  refine z_icmp_ge (tgt := 43) dX8_number_20 (by decide) (fun q1 => ?_) (fun q2 => ?_)
  · refine z_lload_n dX8_number_43 rfl ?_
    exact z_lreturn dX8_number_44 rfl rfl ⟨_, rfl, (h.1 q1)⟩
  · refine z_ldc2 (n := 31) dX8_number_23 zc_1174 ⟨by decide, by decide⟩ ?_
    refine z_lload_n dX8_number_26 rfl ?_
    refine z_lmulw dX8_number_27 ?_
    refine z_aload_n dX8_number_28 rfl ?_
    refine n_getp (ji := 1) dX8_number_29 zf_X8_15 k_75 rfl (by decide) rfl p_75_1 ?_
    refine z_iload_n dX8_number_32 rfl ?_
    refine n_iald dX8_number_33 k_76 (h.2 q2).1 ?_
    refine z_i2l_ dX8_number_34 ?_
    refine z_laddw dX8_number_35 ?_
    refine n_lstore_n (lo' := [some (2, 75), some (1, Int.bmod ((Int.bmod (31 * v1) 18446744073709551616) + (μ 76 v3)) 18446744073709551616), none, some (0, v3)]) dX8_number_36 ⟨Nat.le_of_ble_eq_true rfl, Nat.le_of_ble_eq_true rfl⟩ rfl ?_
    refine n_iinc (lo' := [some (2, 75), some (1, Int.bmod ((Int.bmod (31 * v1) 18446744073709551616) + (μ 76 v3)) 18446744073709551616), none, some (0, v3 + 1)]) dX8_number_37 rfl (by decide) (h.2 q2).2.1 rfl ?_
    refine z_goto (tgt := 15) dX8_number_40 (by decide) ?_
    refine z_drop [some (2, 75), some (1, Int.bmod ((Int.bmod (31 * v1) 18446744073709551616) + (μ 76 v3)) 18446744073709551616), none, some (0, v3 + 1)] ⟨rfl, rfl, rfl, trivial⟩ ?_
    exact (h.2 q2).2.2
set_option maxRecDepth 20000 in
theorem V_X8_isSame {r0 n0 a : Int} (hr0 : z_kd r0 = 14 ∧ z_ln r0 = n0) {μ : z_Mem} {d : Nat} {K : Int → z_Mem → Prop} (h : (μ 75 0 = a → z_ri m_X8_isSame 12 [some (2, 75), some (2, r0), none, some (0, 0)] μ d K) ∧ (¬ μ 75 0 = a → K 0 μ)) : z_ci m_X8_isSame [(2, 75), (2, r0), (0, a)] μ d K := by
  show z_R m_X8_isSame 0 [some (2, 75), some (2, r0), some (0, a), none] [] z_n μ d _
  refine z_aload_n dX8_isSame_0 rfl ?_
  refine n_getf (ji := 0) (t := 0) dX8_isSame_1 zf_X8_9 k_75 rfl (by decide) rfl ?_
  refine z_iload_n dX8_isSame_4 rfl ?_
  refine z_icmp_eq (tgt := 10) dX8_isSame_5 (by decide) (fun q1 => ?_) (fun q2 => ?_)
  · refine z_iconst dX8_isSame_10 ⟨by decide, by decide⟩ ?_
    refine n_istore_n (lo' := [some (2, 75), some (2, r0), some (0, a), some (0, 0)]) dX8_isSame_11 ⟨Nat.le_of_ble_eq_true rfl, Nat.le_of_ble_eq_true rfl⟩ rfl ?_
    refine z_drop [some (2, 75), some (2, r0), none, some (0, 0)] ⟨rfl, rfl, rfl, trivial⟩ ?_
    exact (h.1 q1)
  · refine z_iconst dX8_isSame_8 ⟨by decide, by decide⟩ ?_
    exact z_zreturn dX8_isSame_9 rfl rfl (by decide) ⟨_, rfl, (h.2 q2)⟩
set_option maxRecDepth 20000 in
theorem V_X8_isSame_12 {v3 r0 n0 : Int} (hr0 : z_kd r0 = 14 ∧ z_ln r0 = n0) {μ : z_Mem} {d : Nat} {K : Int → z_Mem → Prop} (h : (μ 75 0 ≤ v3 → K 1 μ) ∧ (v3 < μ 75 0 → ((0 : Int) ≤ v3 ∧ v3 < 30) ∧ (((0 : Int) ≤ v3 ∧ v3 < n0) ∧ ((μ 76 v3 = μ r0 v3 → z_I (v3 + 1) ∧ (z_ri m_X8_isSame 12 [some (2, 75), some (2, r0), none, some (0, v3 + 1)] μ d K)) ∧ (¬ μ 76 v3 = μ r0 v3 → K 0 μ))))) : z_ri m_X8_isSame 12 [some (2, 75), some (2, r0), none, some (0, v3)] μ d K := by
  show z_R m_X8_isSame 12 [some (2, 75), some (2, r0), none, some (0, v3)] [] z_n μ d _
  refine z_iload_n dX8_isSame_12 rfl ?_
  refine z_aload_n dX8_isSame_13 rfl ?_
  refine n_getf (ji := 0) (t := 0) dX8_isSame_14 zf_X8_9 k_75 rfl (by decide) rfl ?_
  refine z_icmp_ge (tgt := 40) dX8_isSame_17 (by decide) (fun q1 => ?_) (fun q2 => ?_)
  · refine z_iconst dX8_isSame_40 ⟨by decide, by decide⟩ ?_
    exact z_zreturn dX8_isSame_41 rfl rfl (by decide) ⟨_, rfl, (h.1 q1)⟩
  · refine z_aload_n dX8_isSame_20 rfl ?_
    refine n_getp (ji := 1) dX8_isSame_21 zf_X8_15 k_75 rfl (by decide) rfl p_75_1 ?_
    refine z_iload_n dX8_isSame_24 rfl ?_
    refine n_iald dX8_isSame_25 k_76 (h.2 q2).1 ?_
    refine z_aload_n dX8_isSame_26 rfl ?_
    refine z_iload_n dX8_isSame_27 rfl ?_
    refine n_iald dX8_isSame_28 hr0 (h.2 q2).2.1 ?_
    refine z_icmp_eq (tgt := 34) dX8_isSame_29 (by decide) (fun q3 => ?_) (fun q4 => ?_)
    · refine n_iinc (lo' := [some (2, 75), some (2, r0), none, some (0, v3 + 1)]) dX8_isSame_34 rfl (by decide) ((h.2 q2).2.2.1 q3).1 rfl ?_
      refine z_goto (tgt := 12) dX8_isSame_37 (by decide) ?_
      refine z_drop [some (2, 75), some (2, r0), none, some (0, v3 + 1)] ⟨rfl, rfl, rfl, trivial⟩ ?_
      exact ((h.2 q2).2.2.1 q3).2
    · refine z_iconst dX8_isSame_32 ⟨by decide, by decide⟩ ?_
      exact z_zreturn dX8_isSame_33 rfl rfl (by decide) ⟨_, rfl, ((h.2 q2).2.2.2 q4)⟩
set_option maxRecDepth 20000 in
theorem V_X10_look  {μ : z_Mem} {d : Nat} {K : z_Mem → Prop} (h : (μ 29 0 = 0 → z_rn m_X10_look 25 [some (2, 29), some (2, 21), some (0, 0)] (z_st (z_st (z_st μ 29 1 (-1)) 29 2 (-1)) 29 3 0) (d + 1) K) ∧ (¬ μ 29 0 = 0 → K μ)) : z_cn m_X10_look [(2, 29), (2, 21)] μ (d + 1) K := by
  show z_R m_X10_look 0 [some (2, 29), some (2, 21), none] [] z_n μ (d + 1) _
  refine z_aload_n dX10_look_0 rfl ?_
  refine n_getf (ji := 0) (t := 0) dX10_look_1 zf_X10_9 k_29 rfl (by decide) rfl ?_
  refine z_if_eq (tgt := 8) dX10_look_4 (by decide) (fun q1 => ?_) (fun q2 => ?_)
  · refine z_aload_n dX10_look_8 rfl ?_
    refine z_iconst dX10_look_9 ⟨by decide, by decide⟩ ?_
    refine n_putI (ji := 1) dX10_look_10 zf_X10_15 k_29 rfl (by decide) rfl ?_
    refine z_aload_n dX10_look_13 rfl ?_
    refine z_iconst dX10_look_14 ⟨by decide, by decide⟩ ?_
    refine n_putI (ji := 2) dX10_look_15 zf_X10_19 k_29 rfl (by decide) rfl ?_
    refine z_aload_n dX10_look_18 rfl ?_
    refine z_iconst dX10_look_19 ⟨by decide, by decide⟩ ?_
    refine n_putI (ji := 3) dX10_look_20 zf_X10_22 k_29 rfl (by decide) rfl ?_
    refine z_iconst dX10_look_23 ⟨by decide, by decide⟩ ?_
    refine n_istore_n (lo' := [some (2, 29), some (2, 21), some (0, 0)]) dX10_look_24 ⟨Nat.le_of_ble_eq_true rfl, Nat.le_of_ble_eq_true rfl⟩ rfl ?_
    refine z_drop [some (2, 29), some (2, 21), some (0, 0)] ⟨rfl, rfl, rfl, trivial⟩ ?_
    exact (h.1 q1)
  · exact z_return dX10_look_7 rfl rfl ⟨rfl, (h.2 q2)⟩
set_option maxRecDepth 20000 in
theorem V_X10_look_25 {v2 : Int}  {μ : z_Mem} {d : Nat} {K : z_Mem → Prop} (h : (μ 6 8 ≤ v2 → K (z_st μ 29 0 1)) ∧ (v2 < μ 6 8 → z_ci m_X3_isHinge [(2, 21), (0, v2)] μ d (fun x5 m3 => (x5 = 0 → z_I (v2 + 1) ∧ (z_rn m_X10_look 25 [some (2, 29), some (2, 21), some (0, v2 + 1)] m3 (d + 1) K)) ∧ (¬ x5 = 0 → z_cn m_X10_lookAt [(2, 29), (0, v2), (2, 21)] m3 d (fun m8 => z_I (v2 + 1) ∧ (z_rn m_X10_look 25 [some (2, 29), some (2, 21), some (0, v2 + 1)] m8 (d + 1) K)))))) : z_rn m_X10_look 25 [some (2, 29), some (2, 21), some (0, v2)] μ (d + 1) K := by
  show z_R m_X10_look 25 [some (2, 29), some (2, 21), some (0, v2)] [] z_n μ (d + 1) _
  refine z_iload_n dX10_look_25 rfl ?_
  refine z_aload_n dX10_look_26 rfl ?_
  refine n_getp (ji := 5) dX10_look_27 zf_X10_29 k_29 rfl (by decide) rfl p_29_5 ?_
  refine n_getf (ji := 8) (t := 0) dX10_look_30 zf_X10_37 k_6 rfl (by decide) rfl ?_
  refine z_icmp_ge (tgt := 56) dX10_look_33 (by decide) (fun q1 => ?_) (fun q2 => ?_)
  · refine z_aload_n dX10_look_56 rfl ?_
    refine z_iconst dX10_look_57 ⟨by decide, by decide⟩ ?_
    refine n_putZ (ji := 0) dX10_look_58 zf_X10_9 k_29 rfl (by decide) rfl (by decide) ?_
    exact z_return dX10_look_61 rfl rfl ⟨rfl, (h.1 q1)⟩
  · refine z_aload_n dX10_look_36 rfl ?_
    refine z_iload_n dX10_look_37 rfl ?_
    refine n_vI (as := [(0, v2)]) (rest := []) dX10_look_38 zm_X3_isHinge zs_X10_42 k_21 (by decide) rfl rfl (Nat.le_of_ble_eq_true rfl) (Nat.le_of_ble_eq_true rfl) (h.2 q2) (fun x5 m3 h4 => ?_)
    refine z_if_eq (tgt := 50) dX10_look_41 (by decide) (fun q6 => ?_) (fun q7 => ?_)
    · refine n_iinc (lo' := [some (2, 29), some (2, 21), some (0, v2 + 1)]) dX10_look_50 rfl (by decide) (h4.1 q6).1 rfl ?_
      refine z_goto (tgt := 25) dX10_look_53 (by decide) ?_
      refine z_drop [some (2, 29), some (2, 21), some (0, v2 + 1)] ⟨rfl, rfl, rfl, trivial⟩ ?_
      exact (h4.1 q6).2
    · refine z_aload_n dX10_look_44 rfl ?_
      refine z_iload_n dX10_look_45 rfl ?_
      refine z_aload_n dX10_look_46 rfl ?_
      refine n_vN (as := [(0, v2), (2, 21)]) (rest := []) dX10_look_47 zm_X10_lookAt zs_X10_48 k_29 (by decide) rfl rfl (Nat.le_of_ble_eq_true rfl) (Nat.le_of_ble_eq_true rfl) (h4.2 q7) (fun m8 h9 => ?_)
      refine n_iinc (lo' := [some (2, 29), some (2, 21), some (0, v2 + 1)]) dX10_look_50 rfl (by decide) h9.1 rfl ?_
      refine z_goto (tgt := 25) dX10_look_53 (by decide) ?_
      refine z_drop [some (2, 29), some (2, 21), some (0, v2 + 1)] ⟨rfl, rfl, rfl, trivial⟩ ?_
      exact h9.2
set_option maxRecDepth 20000 in
theorem V_X10_lookAt {a : Int}  {μ : z_Mem} {d : Nat} {K : z_Mem → Prop} (h : z_ci m_X10_cutOff [(2, 29), (0, a)] μ d (fun x3 m1 => ((0 : Int) ≤ m1 23 5 ∧ (0 : Int) ≤ x3) ∧ (z_ci m_X10_layDown [(2, 29), (0, x3)] m1 d (fun x6 m4 => z_ci m_X10_layDown [(2, 29), (0, ((((m1 23 5 : Int).toNat ^^^ ((m1 23 5 : Int).toNat &&& (x3 : Int).toNat) : Nat)) : Int))] m4 d (fun x9 m7 => z_I (x6 + x9) ∧ (z_rn m_X10_lookAt 36 [some (2, 29), some (0, a), some (2, 21), some (0, x3), none, some (0, x6 + x9), some (0, 0), none, none, none, none] m7 (d + 1) K)))))) : z_cn m_X10_lookAt [(2, 29), (0, a), (2, 21)] μ (d + 1) K := by
  show z_R m_X10_lookAt 0 [some (2, 29), some (0, a), some (2, 21), none, none, none, none, none, none, none, none] [] z_n μ (d + 1) _
  refine z_aload_n dX10_lookAt_0 rfl ?_
  refine z_iload_n dX10_lookAt_1 rfl ?_
  refine n_vI (as := [(0, a)]) (rest := []) dX10_lookAt_2 zm_X10_cutOff zs_X10_52 k_29 (by decide) rfl rfl (Nat.le_of_ble_eq_true rfl) (Nat.le_of_ble_eq_true rfl) h (fun x3 m1 h2 => ?_)
  refine n_istore_n (lo' := [some (2, 29), some (0, a), some (2, 21), some (0, x3), none, none, none, none, none, none, none]) dX10_lookAt_5 ⟨Nat.le_of_ble_eq_true rfl, Nat.le_of_ble_eq_true rfl⟩ rfl ?_
  refine z_aload_n dX10_lookAt_6 rfl ?_
  refine n_getp (ji := 6) dX10_lookAt_7 zf_X10_33 k_29 rfl (by decide) rfl p_29_6 ?_
  refine n_getf (ji := 5) (t := 0) dX10_lookAt_10 zf_X10_56 k_23 rfl (by decide) rfl ?_
  refine z_iload_n dX10_lookAt_13 rfl ?_
  refine z_iconst dX10_lookAt_14 ⟨by decide, by decide⟩ ?_
  refine z_ixorn dX10_lookAt_15 rfl ?_
  refine z_iandn dX10_lookAt_16 (x3) rfl h2.1.1 h2.1.2 ?_
  refine n_istore (lo' := [some (2, 29), some (0, a), some (2, 21), some (0, x3), some (0, ((((m1 23 5 : Int).toNat ^^^ ((m1 23 5 : Int).toNat &&& (x3 : Int).toNat) : Nat)) : Int)), none, none, none, none, none, none]) dX10_lookAt_17 ⟨Nat.le_of_ble_eq_true rfl, Nat.le_of_ble_eq_true rfl⟩ rfl ?_
  refine z_aload_n dX10_lookAt_19 rfl ?_
  refine z_iload_n dX10_lookAt_20 rfl ?_
  refine n_vI (as := [(0, x3)]) (rest := []) dX10_lookAt_21 zm_X10_layDown zs_X10_61 k_29 (by decide) rfl rfl (Nat.le_of_ble_eq_true rfl) (Nat.le_of_ble_eq_true rfl) h2.2 (fun x6 m4 h5 => ?_)
  refine z_aload_n dX10_lookAt_24 rfl ?_
  refine z_iload dX10_lookAt_25 rfl ?_
  refine n_vI (as := [(0, ((((m1 23 5 : Int).toNat ^^^ ((m1 23 5 : Int).toNat &&& (x3 : Int).toNat) : Nat)) : Int))]) (rest := [(0, x6)]) dX10_lookAt_27 zm_X10_layDown zs_X10_61 k_29 (by decide) rfl rfl (Nat.le_of_ble_eq_true rfl) (Nat.le_of_ble_eq_true rfl) h5 (fun x9 m7 h8 => ?_)
  refine z_iadd dX10_lookAt_30 h8.1 ?_
  refine n_istore (lo' := [some (2, 29), some (0, a), some (2, 21), some (0, x3), some (0, ((((m1 23 5 : Int).toNat ^^^ ((m1 23 5 : Int).toNat &&& (x3 : Int).toNat) : Nat)) : Int)), some (0, x6 + x9), none, none, none, none, none]) dX10_lookAt_31 ⟨Nat.le_of_ble_eq_true rfl, Nat.le_of_ble_eq_true rfl⟩ rfl ?_
  refine z_iconst dX10_lookAt_33 ⟨by decide, by decide⟩ ?_
  refine n_istore (lo' := [some (2, 29), some (0, a), some (2, 21), some (0, x3), some (0, ((((m1 23 5 : Int).toNat ^^^ ((m1 23 5 : Int).toNat &&& (x3 : Int).toNat) : Nat)) : Int)), some (0, x6 + x9), some (0, 0), none, none, none, none]) dX10_lookAt_34 ⟨Nat.le_of_ble_eq_true rfl, Nat.le_of_ble_eq_true rfl⟩ rfl ?_
  refine z_drop [some (2, 29), some (0, a), some (2, 21), some (0, x3), none, some (0, x6 + x9), some (0, 0), none, none, none, none] ⟨rfl, rfl, rfl, rfl, rfl, rfl, trivial⟩ ?_
  exact h8.2
set_option maxRecDepth 20000 in
theorem V_X10_lookAt_36 {v1 v3 v5 v6 : Int}  {μ : z_Mem} {d : Nat} {K : z_Mem → Prop} (h : (μ 6 8 ≤ v6 → K μ) ∧ (v6 < μ 6 8 → z_ci m_X9_faceOf [(2, 6), (0, v6), (0, 0)] μ d (fun x5 m3 => ((0 : Int) ≤ x5 ∧ x5 < 32) ∧ (((0 : Int) ≤ v3) ∧ (((v3 / 2 ^ (x5 : Int).toNat) % 2 = 0 → z_ci m_X9_faceOf [(2, 6), (0, v6), (0, 1)] m3 d (fun x10 m8 => ((0 : Int) ≤ x10 ∧ x10 < 32) ∧ (((0 : Int) ≤ v3) ∧ (((v3 / 2 ^ (x10 : Int).toNat) % 2 = 0 → z_ci m_X3_isHinge [(2, 21), (0, v6)] m8 d (fun x15 m13 => (¬ x15 = 0 → z_I (v6 + 1) ∧ (z_rn m_X10_lookAt 36 [some (2, 29), some (0, v1), some (2, 21), some (0, v3), none, some (0, v5), some (0, v6 + 1), none, none, none, none] m13 (d + 1) K)) ∧ (x15 = 0 → z_I (v6 + 1) ∧ (z_rn m_X10_lookAt 36 [some (2, 29), some (0, v1), some (2, 21), some (0, v3), none, some (0, v5), some (0, v6 + 1), none, none, none, none] m13 (d + 1) K)))) ∧ (¬ (v3 / 2 ^ (x10 : Int).toNat) % 2 = 0 → z_ci m_X3_isHinge [(2, 21), (0, v6)] m8 d (fun x21 m19 => (¬ x21 = 0 → z_I (v6 + 1) ∧ (z_rn m_X10_lookAt 36 [some (2, 29), some (0, v1), some (2, 21), some (0, v3), none, some (0, v5), some (0, v6 + 1), none, none, none, none] m19 (d + 1) K)) ∧ (x21 = 0 → z_I (2 * v6) ∧ (z_I ((2 * v6) + 0) ∧ (((0 : Int) ≤ (2 * v6) + 0 ∧ (2 * v6) + 0 < 120) ∧ (z_I (2 * v6) ∧ (z_I ((2 * v6) + 1) ∧ (((0 : Int) ≤ (2 * v6) + 1 ∧ (2 * v6) + 1 < 120) ∧ (z_ci m_X10_between [(2, 29), (0, v3), (0, m19 13 ((2 * v6) + 0)), (0, m19 13 ((2 * v6) + 1))] m19 d (fun x29 m27 => z_I (v5 + x29) ∧ (z_cn m_X10_compare [(2, 29), (0, v6), (0, v1), (0, v5 + x29)] m27 d (fun m30 => z_I (v6 + 1) ∧ (z_rn m_X10_lookAt 36 [some (2, 29), some (0, v1), some (2, 21), some (0, v3), none, some (0, v5), some (0, v6 + 1), none, none, none, none] m30 (d + 1) K))))))))))))))))) ∧ (¬ (v3 / 2 ^ (x5 : Int).toNat) % 2 = 0 → z_ci m_X9_faceOf [(2, 6), (0, v6), (0, 1)] m3 d (fun x34 m32 => ((0 : Int) ≤ x34 ∧ x34 < 32) ∧ (((0 : Int) ≤ v3) ∧ (((v3 / 2 ^ (x34 : Int).toNat) % 2 = 0 → z_ci m_X3_isHinge [(2, 21), (0, v6)] m32 d (fun x39 m37 => (¬ x39 = 0 → z_I (v6 + 1) ∧ (z_rn m_X10_lookAt 36 [some (2, 29), some (0, v1), some (2, 21), some (0, v3), none, some (0, v5), some (0, v6 + 1), none, none, none, none] m37 (d + 1) K)) ∧ (x39 = 0 → z_I (2 * v6) ∧ (z_I ((2 * v6) + 1) ∧ (((0 : Int) ≤ (2 * v6) + 1 ∧ (2 * v6) + 1 < 120) ∧ (z_I (2 * v6) ∧ (z_I ((2 * v6) + 0) ∧ (((0 : Int) ≤ (2 * v6) + 0 ∧ (2 * v6) + 0 < 120) ∧ (z_ci m_X10_between [(2, 29), (0, v3), (0, m37 13 ((2 * v6) + 1)), (0, m37 13 ((2 * v6) + 0))] m37 d (fun x47 m45 => z_I (v5 + x47) ∧ (z_cn m_X10_compare [(2, 29), (0, v6), (0, v1), (0, v5 + x47)] m45 d (fun m48 => z_I (v6 + 1) ∧ (z_rn m_X10_lookAt 36 [some (2, 29), some (0, v1), some (2, 21), some (0, v3), none, some (0, v5), some (0, v6 + 1), none, none, none, none] m48 (d + 1) K))))))))))))) ∧ (¬ (v3 / 2 ^ (x34 : Int).toNat) % 2 = 0 → z_ci m_X3_isHinge [(2, 21), (0, v6)] m32 d (fun x52 m50 => (¬ x52 = 0 → z_I (v6 + 1) ∧ (z_rn m_X10_lookAt 36 [some (2, 29), some (0, v1), some (2, 21), some (0, v3), none, some (0, v5), some (0, v6 + 1), none, none, none, none] m50 (d + 1) K)) ∧ (x52 = 0 → z_I (v6 + 1) ∧ (z_rn m_X10_lookAt 36 [some (2, 29), some (0, v1), some (2, 21), some (0, v3), none, some (0, v5), some (0, v6 + 1), none, none, none, none] m50 (d + 1) K))))))))))))) : z_rn m_X10_lookAt 36 [some (2, 29), some (0, v1), some (2, 21), some (0, v3), none, some (0, v5), some (0, v6), none, none, none, none] μ (d + 1) K := by
  show z_R m_X10_lookAt 36 [some (2, 29), some (0, v1), some (2, 21), some (0, v3), none, some (0, v5), some (0, v6), none, none, none, none] [] z_n μ (d + 1) _
  refine z_iload dX10_lookAt_36 rfl ?_
  refine z_aload_n dX10_lookAt_38 rfl ?_
  refine n_getp (ji := 5) dX10_lookAt_39 zf_X10_29 k_29 rfl (by decide) rfl p_29_5 ?_
  refine n_getf (ji := 8) (t := 0) dX10_lookAt_42 zf_X10_37 k_6 rfl (by decide) rfl ?_
  refine z_icmp_ge (tgt := 187) dX10_lookAt_45 (by decide) (fun q1 => ?_) (fun q2 => ?_)
  · exact z_return dX10_lookAt_187 rfl rfl ⟨rfl, (h.1 q1)⟩
  · refine z_iload_n dX10_lookAt_48 rfl ?_
    refine z_aload_n dX10_lookAt_49 rfl ?_
    refine n_getp (ji := 5) dX10_lookAt_50 zf_X10_29 k_29 rfl (by decide) rfl p_29_5 ?_
    refine z_iload dX10_lookAt_53 rfl ?_
    refine z_iconst dX10_lookAt_55 ⟨by decide, by decide⟩ ?_
    refine n_vI (as := [(0, v6), (0, 0)]) (rest := [(0, v3)]) dX10_lookAt_56 zm_X9_faceOf zs_X10_64 k_6 (by decide) rfl rfl (Nat.le_of_ble_eq_true rfl) (Nat.le_of_ble_eq_true rfl) (h.2 q2) (fun x5 m3 h4 => ?_)
    refine n_iushr dX10_lookAt_59 h4.1 h4.2.1 ?_
    refine z_iconst dX10_lookAt_60 ⟨by decide, by decide⟩ ?_
    refine n_iandm (k := 1) (m := 2) dX10_lookAt_61 (by decide) (by decide) ?_
    refine z_if_eq (tgt := 69) dX10_lookAt_62 (by decide) (fun q6 => ?_) (fun q7 => ?_)
    · refine z_iconst dX10_lookAt_69 ⟨by decide, by decide⟩ ?_
      refine n_istore (lo' := [some (2, 29), some (0, v1), some (2, 21), some (0, v3), none, some (0, v5), some (0, v6), some (0, 0), none, none, none]) dX10_lookAt_70 ⟨Nat.le_of_ble_eq_true rfl, Nat.le_of_ble_eq_true rfl⟩ rfl ?_
      refine z_iload_n dX10_lookAt_72 rfl ?_
      refine z_aload_n dX10_lookAt_73 rfl ?_
      refine n_getp (ji := 5) dX10_lookAt_74 zf_X10_29 k_29 rfl (by decide) rfl p_29_5 ?_
      refine z_iload dX10_lookAt_77 rfl ?_
      refine z_iconst dX10_lookAt_79 ⟨by decide, by decide⟩ ?_
      refine n_vI (as := [(0, v6), (0, 1)]) (rest := [(0, v3)]) dX10_lookAt_80 zm_X9_faceOf zs_X10_64 k_6 (by decide) rfl rfl (Nat.le_of_ble_eq_true rfl) (Nat.le_of_ble_eq_true rfl) (h4.2.2.1 q6) (fun x10 m8 h9 => ?_)
      refine n_iushr dX10_lookAt_83 h9.1 h9.2.1 ?_
      refine z_iconst dX10_lookAt_84 ⟨by decide, by decide⟩ ?_
      refine n_iandm (k := 1) (m := 2) dX10_lookAt_85 (by decide) (by decide) ?_
      refine z_if_eq (tgt := 93) dX10_lookAt_86 (by decide) (fun q11 => ?_) (fun q12 => ?_)
      · refine z_iconst dX10_lookAt_93 ⟨by decide, by decide⟩ ?_
        refine n_istore (lo' := [some (2, 29), some (0, v1), some (2, 21), some (0, v3), none, some (0, v5), some (0, v6), some (0, 0), some (0, 0), none, none]) dX10_lookAt_94 ⟨Nat.le_of_ble_eq_true rfl, Nat.le_of_ble_eq_true rfl⟩ rfl ?_
        refine z_aload_n dX10_lookAt_96 rfl ?_
        refine z_iload dX10_lookAt_97 rfl ?_
        refine n_vI (as := [(0, v6)]) (rest := []) dX10_lookAt_99 zm_X3_isHinge zs_X10_42 k_21 (by decide) rfl rfl (Nat.le_of_ble_eq_true rfl) (Nat.le_of_ble_eq_true rfl) (h9.2.2.1 q11) (fun x15 m13 h14 => ?_)
        refine z_if_ne (tgt := 181) dX10_lookAt_102 (by decide) (fun q16 => ?_) (fun q17 => ?_)
        · refine n_iinc (lo' := [some (2, 29), some (0, v1), some (2, 21), some (0, v3), none, some (0, v5), some (0, v6 + 1), some (0, 0), some (0, 0), none, none]) dX10_lookAt_181 rfl (by decide) (h14.1 q16).1 rfl ?_
          refine z_goto (tgt := 36) dX10_lookAt_184 (by decide) ?_
          refine z_drop [some (2, 29), some (0, v1), some (2, 21), some (0, v3), none, some (0, v5), some (0, v6 + 1), none, none, none, none] ⟨rfl, rfl, rfl, rfl, rfl, rfl, trivial⟩ ?_
          exact (h14.1 q16).2
        · refine z_iload dX10_lookAt_105 rfl ?_
          refine z_iload dX10_lookAt_107 rfl ?_
          refine z_icmp_eq (tgt := 181) dX10_lookAt_109 (by decide) (fun _ => ?_) (fun q18 => absurd q18 (by decide))
          refine n_iinc (lo' := [some (2, 29), some (0, v1), some (2, 21), some (0, v3), none, some (0, v5), some (0, v6 + 1), some (0, 0), some (0, 0), none, none]) dX10_lookAt_181 rfl (by decide) (h14.2 q17).1 rfl ?_
          refine z_goto (tgt := 36) dX10_lookAt_184 (by decide) ?_
          refine z_drop [some (2, 29), some (0, v1), some (2, 21), some (0, v3), none, some (0, v5), some (0, v6 + 1), none, none, none, none] ⟨rfl, rfl, rfl, rfl, rfl, rfl, trivial⟩ ?_
          exact (h14.2 q17).2
      · refine z_iconst dX10_lookAt_89 ⟨by decide, by decide⟩ ?_
        refine z_goto (tgt := 94) dX10_lookAt_90 (by decide) ?_
        refine n_istore (lo' := [some (2, 29), some (0, v1), some (2, 21), some (0, v3), none, some (0, v5), some (0, v6), some (0, 0), some (0, 1), none, none]) dX10_lookAt_94 ⟨Nat.le_of_ble_eq_true rfl, Nat.le_of_ble_eq_true rfl⟩ rfl ?_
        refine z_aload_n dX10_lookAt_96 rfl ?_
        refine z_iload dX10_lookAt_97 rfl ?_
        refine n_vI (as := [(0, v6)]) (rest := []) dX10_lookAt_99 zm_X3_isHinge zs_X10_42 k_21 (by decide) rfl rfl (Nat.le_of_ble_eq_true rfl) (Nat.le_of_ble_eq_true rfl) (h9.2.2.2 q12) (fun x21 m19 h20 => ?_)
        refine z_if_ne (tgt := 181) dX10_lookAt_102 (by decide) (fun q22 => ?_) (fun q23 => ?_)
        · refine n_iinc (lo' := [some (2, 29), some (0, v1), some (2, 21), some (0, v3), none, some (0, v5), some (0, v6 + 1), some (0, 0), some (0, 1), none, none]) dX10_lookAt_181 rfl (by decide) (h20.1 q22).1 rfl ?_
          refine z_goto (tgt := 36) dX10_lookAt_184 (by decide) ?_
          refine z_drop [some (2, 29), some (0, v1), some (2, 21), some (0, v3), none, some (0, v5), some (0, v6 + 1), none, none, none, none] ⟨rfl, rfl, rfl, rfl, rfl, rfl, trivial⟩ ?_
          exact (h20.1 q22).2
        · refine z_iload dX10_lookAt_105 rfl ?_
          refine z_iload dX10_lookAt_107 rfl ?_
          refine z_icmp_eq (tgt := 181) dX10_lookAt_109 (by decide) (fun q24 => absurd q24 (by decide)) (fun _ => ?_)
          refine z_aload_n dX10_lookAt_112 rfl ?_
          refine n_getp (ji := 5) dX10_lookAt_113 zf_X10_29 k_29 rfl (by decide) rfl p_29_5 ?_
          refine n_getp (ji := 9) dX10_lookAt_116 zf_X10_68 k_6 rfl (by decide) rfl p_6_9 ?_
          refine z_iconst dX10_lookAt_119 ⟨by decide, by decide⟩ ?_
          refine z_iload dX10_lookAt_120 rfl ?_
          refine z_imul dX10_lookAt_122 (h20.2 q23).1 ?_
          refine z_iload dX10_lookAt_123 rfl ?_
          refine z_if_eq (tgt := 132) dX10_lookAt_125 (by decide) (fun _ => ?_) (fun q25 => absurd q25 (by decide))
          refine z_iconst dX10_lookAt_132 ⟨by decide, by decide⟩ ?_
          refine z_iadd dX10_lookAt_133 (h20.2 q23).2.1 ?_
          refine n_iald dX10_lookAt_134 k_13 (h20.2 q23).2.2.1 ?_
          refine n_istore (lo' := [some (2, 29), some (0, v1), some (2, 21), some (0, v3), none, some (0, v5), some (0, v6), some (0, 0), some (0, 1), some (0, m19 13 ((2 * v6) + 0)), none]) dX10_lookAt_135 ⟨Nat.le_of_ble_eq_true rfl, Nat.le_of_ble_eq_true rfl⟩ rfl ?_
          refine z_aload_n dX10_lookAt_137 rfl ?_
          refine n_getp (ji := 5) dX10_lookAt_138 zf_X10_29 k_29 rfl (by decide) rfl p_29_5 ?_
          refine n_getp (ji := 9) dX10_lookAt_141 zf_X10_68 k_6 rfl (by decide) rfl p_6_9 ?_
          refine z_iconst dX10_lookAt_144 ⟨by decide, by decide⟩ ?_
          refine z_iload dX10_lookAt_145 rfl ?_
          refine z_imul dX10_lookAt_147 (h20.2 q23).2.2.2.1 ?_
          refine z_iload dX10_lookAt_148 rfl ?_
          refine z_if_eq (tgt := 157) dX10_lookAt_150 (by decide) (fun _ => ?_) (fun q26 => absurd q26 (by decide))
          refine z_iconst dX10_lookAt_157 ⟨by decide, by decide⟩ ?_
          refine z_iadd dX10_lookAt_158 (h20.2 q23).2.2.2.2.1 ?_
          refine n_iald dX10_lookAt_159 k_13 (h20.2 q23).2.2.2.2.2.1 ?_
          refine n_istore (lo' := [some (2, 29), some (0, v1), some (2, 21), some (0, v3), none, some (0, v5), some (0, v6), some (0, 0), some (0, 1), some (0, m19 13 ((2 * v6) + 0)), some (0, m19 13 ((2 * v6) + 1))]) dX10_lookAt_160 ⟨Nat.le_of_ble_eq_true rfl, Nat.le_of_ble_eq_true rfl⟩ rfl ?_
          refine z_aload_n dX10_lookAt_162 rfl ?_
          refine z_iload dX10_lookAt_163 rfl ?_
          refine z_iload_n dX10_lookAt_165 rfl ?_
          refine z_iload dX10_lookAt_166 rfl ?_
          refine z_aload_n dX10_lookAt_168 rfl ?_
          refine z_iload_n dX10_lookAt_169 rfl ?_
          refine z_iload dX10_lookAt_170 rfl ?_
          refine z_iload dX10_lookAt_172 rfl ?_
          refine n_vI (as := [(0, v3), (0, m19 13 ((2 * v6) + 0)), (0, m19 13 ((2 * v6) + 1))]) (rest := [(0, v5), (0, v1), (0, v6), (2, 29)]) dX10_lookAt_174 zm_X10_between zs_X10_72 k_29 (by decide) rfl rfl (Nat.le_of_ble_eq_true rfl) (Nat.le_of_ble_eq_true rfl) (h20.2 q23).2.2.2.2.2.2 (fun x29 m27 h28 => ?_)
          refine z_iadd dX10_lookAt_177 h28.1 ?_
          refine n_vN (as := [(0, v6), (0, v1), (0, v5 + x29)]) (rest := []) dX10_lookAt_178 zm_X10_compare zs_X10_76 k_29 (by decide) rfl rfl (Nat.le_of_ble_eq_true rfl) (Nat.le_of_ble_eq_true rfl) h28.2 (fun m30 h31 => ?_)
          refine n_iinc (lo' := [some (2, 29), some (0, v1), some (2, 21), some (0, v3), none, some (0, v5), some (0, v6 + 1), some (0, 0), some (0, 1), some (0, m19 13 ((2 * v6) + 0)), some (0, m19 13 ((2 * v6) + 1))]) dX10_lookAt_181 rfl (by decide) h31.1 rfl ?_
          refine z_goto (tgt := 36) dX10_lookAt_184 (by decide) ?_
          refine z_drop [some (2, 29), some (0, v1), some (2, 21), some (0, v3), none, some (0, v5), some (0, v6 + 1), none, none, none, none] ⟨rfl, rfl, rfl, rfl, rfl, rfl, trivial⟩ ?_
          exact h31.2
    · refine z_iconst dX10_lookAt_65 ⟨by decide, by decide⟩ ?_
      refine z_goto (tgt := 70) dX10_lookAt_66 (by decide) ?_
      refine n_istore (lo' := [some (2, 29), some (0, v1), some (2, 21), some (0, v3), none, some (0, v5), some (0, v6), some (0, 1), none, none, none]) dX10_lookAt_70 ⟨Nat.le_of_ble_eq_true rfl, Nat.le_of_ble_eq_true rfl⟩ rfl ?_
      refine z_iload_n dX10_lookAt_72 rfl ?_
      refine z_aload_n dX10_lookAt_73 rfl ?_
      refine n_getp (ji := 5) dX10_lookAt_74 zf_X10_29 k_29 rfl (by decide) rfl p_29_5 ?_
      refine z_iload dX10_lookAt_77 rfl ?_
      refine z_iconst dX10_lookAt_79 ⟨by decide, by decide⟩ ?_
      refine n_vI (as := [(0, v6), (0, 1)]) (rest := [(0, v3)]) dX10_lookAt_80 zm_X9_faceOf zs_X10_64 k_6 (by decide) rfl rfl (Nat.le_of_ble_eq_true rfl) (Nat.le_of_ble_eq_true rfl) (h4.2.2.2 q7) (fun x34 m32 h33 => ?_)
      refine n_iushr dX10_lookAt_83 h33.1 h33.2.1 ?_
      refine z_iconst dX10_lookAt_84 ⟨by decide, by decide⟩ ?_
      refine n_iandm (k := 1) (m := 2) dX10_lookAt_85 (by decide) (by decide) ?_
      refine z_if_eq (tgt := 93) dX10_lookAt_86 (by decide) (fun q35 => ?_) (fun q36 => ?_)
      · refine z_iconst dX10_lookAt_93 ⟨by decide, by decide⟩ ?_
        refine n_istore (lo' := [some (2, 29), some (0, v1), some (2, 21), some (0, v3), none, some (0, v5), some (0, v6), some (0, 1), some (0, 0), none, none]) dX10_lookAt_94 ⟨Nat.le_of_ble_eq_true rfl, Nat.le_of_ble_eq_true rfl⟩ rfl ?_
        refine z_aload_n dX10_lookAt_96 rfl ?_
        refine z_iload dX10_lookAt_97 rfl ?_
        refine n_vI (as := [(0, v6)]) (rest := []) dX10_lookAt_99 zm_X3_isHinge zs_X10_42 k_21 (by decide) rfl rfl (Nat.le_of_ble_eq_true rfl) (Nat.le_of_ble_eq_true rfl) (h33.2.2.1 q35) (fun x39 m37 h38 => ?_)
        refine z_if_ne (tgt := 181) dX10_lookAt_102 (by decide) (fun q40 => ?_) (fun q41 => ?_)
        · refine n_iinc (lo' := [some (2, 29), some (0, v1), some (2, 21), some (0, v3), none, some (0, v5), some (0, v6 + 1), some (0, 1), some (0, 0), none, none]) dX10_lookAt_181 rfl (by decide) (h38.1 q40).1 rfl ?_
          refine z_goto (tgt := 36) dX10_lookAt_184 (by decide) ?_
          refine z_drop [some (2, 29), some (0, v1), some (2, 21), some (0, v3), none, some (0, v5), some (0, v6 + 1), none, none, none, none] ⟨rfl, rfl, rfl, rfl, rfl, rfl, trivial⟩ ?_
          exact (h38.1 q40).2
        · refine z_iload dX10_lookAt_105 rfl ?_
          refine z_iload dX10_lookAt_107 rfl ?_
          refine z_icmp_eq (tgt := 181) dX10_lookAt_109 (by decide) (fun q42 => absurd q42 (by decide)) (fun _ => ?_)
          refine z_aload_n dX10_lookAt_112 rfl ?_
          refine n_getp (ji := 5) dX10_lookAt_113 zf_X10_29 k_29 rfl (by decide) rfl p_29_5 ?_
          refine n_getp (ji := 9) dX10_lookAt_116 zf_X10_68 k_6 rfl (by decide) rfl p_6_9 ?_
          refine z_iconst dX10_lookAt_119 ⟨by decide, by decide⟩ ?_
          refine z_iload dX10_lookAt_120 rfl ?_
          refine z_imul dX10_lookAt_122 (h38.2 q41).1 ?_
          refine z_iload dX10_lookAt_123 rfl ?_
          refine z_if_eq (tgt := 132) dX10_lookAt_125 (by decide) (fun q43 => absurd q43 (by decide)) (fun _ => ?_)
          refine z_iconst dX10_lookAt_128 ⟨by decide, by decide⟩ ?_
          refine z_goto (tgt := 133) dX10_lookAt_129 (by decide) ?_
          refine z_iadd dX10_lookAt_133 (h38.2 q41).2.1 ?_
          refine n_iald dX10_lookAt_134 k_13 (h38.2 q41).2.2.1 ?_
          refine n_istore (lo' := [some (2, 29), some (0, v1), some (2, 21), some (0, v3), none, some (0, v5), some (0, v6), some (0, 1), some (0, 0), some (0, m37 13 ((2 * v6) + 1)), none]) dX10_lookAt_135 ⟨Nat.le_of_ble_eq_true rfl, Nat.le_of_ble_eq_true rfl⟩ rfl ?_
          refine z_aload_n dX10_lookAt_137 rfl ?_
          refine n_getp (ji := 5) dX10_lookAt_138 zf_X10_29 k_29 rfl (by decide) rfl p_29_5 ?_
          refine n_getp (ji := 9) dX10_lookAt_141 zf_X10_68 k_6 rfl (by decide) rfl p_6_9 ?_
          refine z_iconst dX10_lookAt_144 ⟨by decide, by decide⟩ ?_
          refine z_iload dX10_lookAt_145 rfl ?_
          refine z_imul dX10_lookAt_147 (h38.2 q41).2.2.2.1 ?_
          refine z_iload dX10_lookAt_148 rfl ?_
          refine z_if_eq (tgt := 157) dX10_lookAt_150 (by decide) (fun q44 => absurd q44 (by decide)) (fun _ => ?_)
          refine z_iconst dX10_lookAt_153 ⟨by decide, by decide⟩ ?_
          refine z_goto (tgt := 158) dX10_lookAt_154 (by decide) ?_
          refine z_iadd dX10_lookAt_158 (h38.2 q41).2.2.2.2.1 ?_
          refine n_iald dX10_lookAt_159 k_13 (h38.2 q41).2.2.2.2.2.1 ?_
          refine n_istore (lo' := [some (2, 29), some (0, v1), some (2, 21), some (0, v3), none, some (0, v5), some (0, v6), some (0, 1), some (0, 0), some (0, m37 13 ((2 * v6) + 1)), some (0, m37 13 ((2 * v6) + 0))]) dX10_lookAt_160 ⟨Nat.le_of_ble_eq_true rfl, Nat.le_of_ble_eq_true rfl⟩ rfl ?_
          refine z_aload_n dX10_lookAt_162 rfl ?_
          refine z_iload dX10_lookAt_163 rfl ?_
          refine z_iload_n dX10_lookAt_165 rfl ?_
          refine z_iload dX10_lookAt_166 rfl ?_
          refine z_aload_n dX10_lookAt_168 rfl ?_
          refine z_iload_n dX10_lookAt_169 rfl ?_
          refine z_iload dX10_lookAt_170 rfl ?_
          refine z_iload dX10_lookAt_172 rfl ?_
          refine n_vI (as := [(0, v3), (0, m37 13 ((2 * v6) + 1)), (0, m37 13 ((2 * v6) + 0))]) (rest := [(0, v5), (0, v1), (0, v6), (2, 29)]) dX10_lookAt_174 zm_X10_between zs_X10_72 k_29 (by decide) rfl rfl (Nat.le_of_ble_eq_true rfl) (Nat.le_of_ble_eq_true rfl) (h38.2 q41).2.2.2.2.2.2 (fun x47 m45 h46 => ?_)
          refine z_iadd dX10_lookAt_177 h46.1 ?_
          refine n_vN (as := [(0, v6), (0, v1), (0, v5 + x47)]) (rest := []) dX10_lookAt_178 zm_X10_compare zs_X10_76 k_29 (by decide) rfl rfl (Nat.le_of_ble_eq_true rfl) (Nat.le_of_ble_eq_true rfl) h46.2 (fun m48 h49 => ?_)
          refine n_iinc (lo' := [some (2, 29), some (0, v1), some (2, 21), some (0, v3), none, some (0, v5), some (0, v6 + 1), some (0, 1), some (0, 0), some (0, m37 13 ((2 * v6) + 1)), some (0, m37 13 ((2 * v6) + 0))]) dX10_lookAt_181 rfl (by decide) h49.1 rfl ?_
          refine z_goto (tgt := 36) dX10_lookAt_184 (by decide) ?_
          refine z_drop [some (2, 29), some (0, v1), some (2, 21), some (0, v3), none, some (0, v5), some (0, v6 + 1), none, none, none, none] ⟨rfl, rfl, rfl, rfl, rfl, rfl, trivial⟩ ?_
          exact h49.2
      · refine z_iconst dX10_lookAt_89 ⟨by decide, by decide⟩ ?_
        refine z_goto (tgt := 94) dX10_lookAt_90 (by decide) ?_
        refine n_istore (lo' := [some (2, 29), some (0, v1), some (2, 21), some (0, v3), none, some (0, v5), some (0, v6), some (0, 1), some (0, 1), none, none]) dX10_lookAt_94 ⟨Nat.le_of_ble_eq_true rfl, Nat.le_of_ble_eq_true rfl⟩ rfl ?_
        refine z_aload_n dX10_lookAt_96 rfl ?_
        refine z_iload dX10_lookAt_97 rfl ?_
        refine n_vI (as := [(0, v6)]) (rest := []) dX10_lookAt_99 zm_X3_isHinge zs_X10_42 k_21 (by decide) rfl rfl (Nat.le_of_ble_eq_true rfl) (Nat.le_of_ble_eq_true rfl) (h33.2.2.2 q36) (fun x52 m50 h51 => ?_)
        refine z_if_ne (tgt := 181) dX10_lookAt_102 (by decide) (fun q53 => ?_) (fun q54 => ?_)
        · refine n_iinc (lo' := [some (2, 29), some (0, v1), some (2, 21), some (0, v3), none, some (0, v5), some (0, v6 + 1), some (0, 1), some (0, 1), none, none]) dX10_lookAt_181 rfl (by decide) (h51.1 q53).1 rfl ?_
          refine z_goto (tgt := 36) dX10_lookAt_184 (by decide) ?_
          refine z_drop [some (2, 29), some (0, v1), some (2, 21), some (0, v3), none, some (0, v5), some (0, v6 + 1), none, none, none, none] ⟨rfl, rfl, rfl, rfl, rfl, rfl, trivial⟩ ?_
          exact (h51.1 q53).2
        · refine z_iload dX10_lookAt_105 rfl ?_
          refine z_iload dX10_lookAt_107 rfl ?_
          refine z_icmp_eq (tgt := 181) dX10_lookAt_109 (by decide) (fun _ => ?_) (fun q55 => absurd q55 (by decide))
          refine n_iinc (lo' := [some (2, 29), some (0, v1), some (2, 21), some (0, v3), none, some (0, v5), some (0, v6 + 1), some (0, 1), some (0, 1), none, none]) dX10_lookAt_181 rfl (by decide) (h51.2 q54).1 rfl ?_
          refine z_goto (tgt := 36) dX10_lookAt_184 (by decide) ?_
          refine z_drop [some (2, 29), some (0, v1), some (2, 21), some (0, v3), none, some (0, v5), some (0, v6 + 1), none, none, none, none] ⟨rfl, rfl, rfl, rfl, rfl, rfl, trivial⟩ ?_
          exact (h51.2 q54).2
set_option maxRecDepth 20000 in
theorem V_X10_compare {a b c : Int}  {μ : z_Mem} {d : Nat} {K : z_Mem → Prop} (h : (μ 29 1 = (-1) → K (z_st (z_st (z_st μ 29 1 a) 29 2 b) 29 3 c)) ∧ (¬ μ 29 1 = (-1) → (c < μ 29 3 → K (z_st (z_st (z_st μ 29 1 a) 29 2 b) 29 3 c)) ∧ (μ 29 3 ≤ c → (¬ c = μ 29 3 → K μ) ∧ (c = μ 29 3 → (μ 29 1 ≤ a → K μ) ∧ (a < μ 29 1 → K (z_st (z_st (z_st μ 29 1 a) 29 2 b) 29 3 c)))))) : z_cn m_X10_compare [(2, 29), (0, a), (0, b), (0, c)] μ d K := by
  show z_R m_X10_compare 0 [some (2, 29), some (0, a), some (0, b), some (0, c), none] [] z_n μ d _
  refine z_aload_n dX10_compare_0 rfl ?_
  refine n_getf (ji := 1) (t := 0) dX10_compare_1 zf_X10_15 k_29 rfl (by decide) rfl ?_
  refine z_iconst dX10_compare_4 ⟨by decide, by decide⟩ ?_
  refine z_icmp_eq (tgt := 32) dX10_compare_5 (by decide) (fun q1 => ?_) (fun q2 => ?_)
  · refine z_iconst dX10_compare_32 ⟨by decide, by decide⟩ ?_
    refine z_goto (tgt := 37) dX10_compare_33 (by decide) ?_
    refine n_istore (lo' := [some (2, 29), some (0, a), some (0, b), some (0, c), some (0, 1)]) dX10_compare_37 ⟨Nat.le_of_ble_eq_true rfl, Nat.le_of_ble_eq_true rfl⟩ rfl ?_
    refine z_iload dX10_compare_39 rfl ?_
    refine z_if_eq (tgt := 59) dX10_compare_41 (by decide) (fun q3 => absurd q3 (by decide)) (fun _ => ?_)
    refine z_aload_n dX10_compare_44 rfl ?_
    refine z_iload_n dX10_compare_45 rfl ?_
    refine n_putI (ji := 1) dX10_compare_46 zf_X10_15 k_29 rfl (by decide) rfl ?_
    refine z_aload_n dX10_compare_49 rfl ?_
    refine z_iload_n dX10_compare_50 rfl ?_
    refine n_putI (ji := 2) dX10_compare_51 zf_X10_19 k_29 rfl (by decide) rfl ?_
    refine z_aload_n dX10_compare_54 rfl ?_
    refine z_iload_n dX10_compare_55 rfl ?_
    refine n_putI (ji := 3) dX10_compare_56 zf_X10_22 k_29 rfl (by decide) rfl ?_
    exact z_return dX10_compare_59 rfl rfl ⟨rfl, (h.1 q1)⟩
  · refine z_iload_n dX10_compare_8 rfl ?_
    refine z_aload_n dX10_compare_9 rfl ?_
    refine n_getf (ji := 3) (t := 0) dX10_compare_10 zf_X10_22 k_29 rfl (by decide) rfl ?_
    refine z_icmp_lt (tgt := 32) dX10_compare_13 (by decide) (fun q4 => ?_) (fun q5 => ?_)
    · refine z_iconst dX10_compare_32 ⟨by decide, by decide⟩ ?_
      refine z_goto (tgt := 37) dX10_compare_33 (by decide) ?_
      refine n_istore (lo' := [some (2, 29), some (0, a), some (0, b), some (0, c), some (0, 1)]) dX10_compare_37 ⟨Nat.le_of_ble_eq_true rfl, Nat.le_of_ble_eq_true rfl⟩ rfl ?_
      refine z_iload dX10_compare_39 rfl ?_
      refine z_if_eq (tgt := 59) dX10_compare_41 (by decide) (fun q6 => absurd q6 (by decide)) (fun _ => ?_)
      refine z_aload_n dX10_compare_44 rfl ?_
      refine z_iload_n dX10_compare_45 rfl ?_
      refine n_putI (ji := 1) dX10_compare_46 zf_X10_15 k_29 rfl (by decide) rfl ?_
      refine z_aload_n dX10_compare_49 rfl ?_
      refine z_iload_n dX10_compare_50 rfl ?_
      refine n_putI (ji := 2) dX10_compare_51 zf_X10_19 k_29 rfl (by decide) rfl ?_
      refine z_aload_n dX10_compare_54 rfl ?_
      refine z_iload_n dX10_compare_55 rfl ?_
      refine n_putI (ji := 3) dX10_compare_56 zf_X10_22 k_29 rfl (by decide) rfl ?_
      exact z_return dX10_compare_59 rfl rfl ⟨rfl, ((h.2 q2).1 q4)⟩
    · refine z_iload_n dX10_compare_16 rfl ?_
      refine z_aload_n dX10_compare_17 rfl ?_
      refine n_getf (ji := 3) (t := 0) dX10_compare_18 zf_X10_22 k_29 rfl (by decide) rfl ?_
      refine z_icmp_ne (tgt := 36) dX10_compare_21 (by decide) (fun q7 => ?_) (fun q8 => ?_)
      · refine z_iconst dX10_compare_36 ⟨by decide, by decide⟩ ?_
        refine n_istore (lo' := [some (2, 29), some (0, a), some (0, b), some (0, c), some (0, 0)]) dX10_compare_37 ⟨Nat.le_of_ble_eq_true rfl, Nat.le_of_ble_eq_true rfl⟩ rfl ?_
        refine z_iload dX10_compare_39 rfl ?_
        refine z_if_eq (tgt := 59) dX10_compare_41 (by decide) (fun _ => ?_) (fun q9 => absurd q9 (by decide))
        exact z_return dX10_compare_59 rfl rfl ⟨rfl, (((h.2 q2).2 q5).1 q7)⟩
      · refine z_iload_n dX10_compare_24 rfl ?_
        refine z_aload_n dX10_compare_25 rfl ?_
        refine n_getf (ji := 1) (t := 0) dX10_compare_26 zf_X10_15 k_29 rfl (by decide) rfl ?_
        refine z_icmp_ge (tgt := 36) dX10_compare_29 (by decide) (fun q10 => ?_) (fun q11 => ?_)
        · refine z_iconst dX10_compare_36 ⟨by decide, by decide⟩ ?_
          refine n_istore (lo' := [some (2, 29), some (0, a), some (0, b), some (0, c), some (0, 0)]) dX10_compare_37 ⟨Nat.le_of_ble_eq_true rfl, Nat.le_of_ble_eq_true rfl⟩ rfl ?_
          refine z_iload dX10_compare_39 rfl ?_
          refine z_if_eq (tgt := 59) dX10_compare_41 (by decide) (fun _ => ?_) (fun q12 => absurd q12 (by decide))
          exact z_return dX10_compare_59 rfl rfl ⟨rfl, ((((h.2 q2).2 q5).2 q8).1 q10)⟩
        · refine z_iconst dX10_compare_32 ⟨by decide, by decide⟩ ?_
          refine z_goto (tgt := 37) dX10_compare_33 (by decide) ?_
          refine n_istore (lo' := [some (2, 29), some (0, a), some (0, b), some (0, c), some (0, 1)]) dX10_compare_37 ⟨Nat.le_of_ble_eq_true rfl, Nat.le_of_ble_eq_true rfl⟩ rfl ?_
          refine z_iload dX10_compare_39 rfl ?_
          refine z_if_eq (tgt := 59) dX10_compare_41 (by decide) (fun q13 => absurd q13 (by decide)) (fun _ => ?_)
          refine z_aload_n dX10_compare_44 rfl ?_
          refine z_iload_n dX10_compare_45 rfl ?_
          refine n_putI (ji := 1) dX10_compare_46 zf_X10_15 k_29 rfl (by decide) rfl ?_
          refine z_aload_n dX10_compare_49 rfl ?_
          refine z_iload_n dX10_compare_50 rfl ?_
          refine n_putI (ji := 2) dX10_compare_51 zf_X10_19 k_29 rfl (by decide) rfl ?_
          refine z_aload_n dX10_compare_54 rfl ?_
          refine z_iload_n dX10_compare_55 rfl ?_
          refine n_putI (ji := 3) dX10_compare_56 zf_X10_22 k_29 rfl (by decide) rfl ?_
          exact z_return dX10_compare_59 rfl rfl ⟨rfl, ((((h.2 q2).2 q5).2 q8).2 q11)⟩
set_option maxRecDepth 20000 in
theorem V_X10_cutOff {a : Int}  {μ : z_Mem} {d : Nat} {K : Int → z_Mem → Prop} (h : z_ri m_X10_cutOff 4 [some (2, 29), some (0, a), some (0, 0), some (0, 0), none, none] μ d K) : z_ci m_X10_cutOff [(2, 29), (0, a)] μ d K := by
  show z_R m_X10_cutOff 0 [some (2, 29), some (0, a), none, none, none, none] [] z_n μ d _
  refine z_iconst dX10_cutOff_0 ⟨by decide, by decide⟩ ?_
  refine n_istore_n (lo' := [some (2, 29), some (0, a), some (0, 0), none, none, none]) dX10_cutOff_1 ⟨Nat.le_of_ble_eq_true rfl, Nat.le_of_ble_eq_true rfl⟩ rfl ?_
  refine z_iconst dX10_cutOff_2 ⟨by decide, by decide⟩ ?_
  refine n_istore_n (lo' := [some (2, 29), some (0, a), some (0, 0), some (0, 0), none, none]) dX10_cutOff_3 ⟨Nat.le_of_ble_eq_true rfl, Nat.le_of_ble_eq_true rfl⟩ rfl ?_
  refine z_drop [some (2, 29), some (0, a), some (0, 0), some (0, 0), none, none] ⟨rfl, rfl, rfl, rfl, trivial⟩ ?_
  exact h
set_option maxRecDepth 20000 in
theorem V_X10_cutOff_4 {v1 v2 v3 : Int}  {μ : z_Mem} {d : Nat} {K : Int → z_Mem → Prop} (h : (μ 23 6 ≤ v3 → K v2 μ) ∧ (v3 < μ 23 6 → ((0 : Int) ≤ v3 ∧ v3 < 30) ∧ (((0 : Int) ≤ μ 27 v3 ∧ μ 27 v3 < 30) ∧ ((μ 28 (μ 27 v3) = (-1) → z_I (v3 + 1) ∧ (z_ri m_X10_cutOff 4 [some (2, 29), some (0, v1), some (0, v2), some (0, v3 + 1), none, none] μ d K)) ∧ (¬ μ 28 (μ 27 v3) = (-1) → ((0 : Int) ≤ μ 28 (μ 27 v3) ∧ μ 28 (μ 27 v3) < 120) ∧ ((μ 12 (μ 28 (μ 27 v3)) = v1 → ((0 : Int) ≤ μ 27 v3 ∧ μ 27 v3 < 31) ∧ (((0 : Int) ≤ v2 ∧ (0 : Int) ≤ (2 : Int) ^ (μ 27 v3 : Int).toNat) ∧ (z_I (v3 + 1) ∧ (z_ri m_X10_cutOff 4 [some (2, 29), some (0, v1), some (0, ((((v2 : Int).toNat ||| ((2 : Int) ^ (μ 27 v3 : Int).toNat : Int).toNat : Nat)) : Int)), some (0, v3 + 1), none, none] μ d K)))) ∧ (¬ μ 12 (μ 28 (μ 27 v3)) = v1 → ((0 : Int) ≤ (μ 28 (μ 27 v3)) / 4 ∧ (μ 28 (μ 27 v3)) / 4 < 32) ∧ (((0 : Int) ≤ v2) ∧ (((v2 / 2 ^ ((μ 28 (μ 27 v3)) / 4 : Int).toNat) % 2 = 0 → z_I (v3 + 1) ∧ (z_ri m_X10_cutOff 4 [some (2, 29), some (0, v1), some (0, v2), some (0, v3 + 1), none, none] μ d K)) ∧ (¬ (v2 / 2 ^ ((μ 28 (μ 27 v3)) / 4 : Int).toNat) % 2 = 0 → ((0 : Int) ≤ μ 27 v3 ∧ μ 27 v3 < 31) ∧ (((0 : Int) ≤ v2 ∧ (0 : Int) ≤ (2 : Int) ^ (μ 27 v3 : Int).toNat) ∧ (z_I (v3 + 1) ∧ (z_ri m_X10_cutOff 4 [some (2, 29), some (0, v1), some (0, ((((v2 : Int).toNat ||| ((2 : Int) ^ (μ 27 v3 : Int).toNat : Int).toNat : Nat)) : Int)), some (0, v3 + 1), none, none] μ d K))))))))))))) : z_ri m_X10_cutOff 4 [some (2, 29), some (0, v1), some (0, v2), some (0, v3), none, none] μ d K := by
  show z_R m_X10_cutOff 4 [some (2, 29), some (0, v1), some (0, v2), some (0, v3), none, none] [] z_n μ d _
  refine z_iload_n dX10_cutOff_4 rfl ?_
  refine z_aload_n dX10_cutOff_5 rfl ?_
  refine n_getp (ji := 6) dX10_cutOff_6 zf_X10_33 k_29 rfl (by decide) rfl p_29_6 ?_
  refine n_getf (ji := 6) (t := 0) dX10_cutOff_9 zf_X10_80 k_23 rfl (by decide) rfl ?_
  refine z_icmp_ge (tgt := 82) dX10_cutOff_12 (by decide) (fun q1 => ?_) (fun q2 => ?_)
  · refine z_iload_n dX10_cutOff_82 rfl ?_
    exact z_ireturn dX10_cutOff_83 rfl rfl ⟨_, rfl, (h.1 q1)⟩
  · refine z_aload_n dX10_cutOff_15 rfl ?_
    refine n_getp (ji := 6) dX10_cutOff_16 zf_X10_33 k_29 rfl (by decide) rfl p_29_6 ?_
    refine n_getp (ji := 3) dX10_cutOff_19 zf_X10_83 k_23 rfl (by decide) rfl p_23_3 ?_
    refine z_iload_n dX10_cutOff_22 rfl ?_
    refine n_iald dX10_cutOff_23 k_27 (h.2 q2).1 ?_
    refine n_istore (lo' := [some (2, 29), some (0, v1), some (0, v2), some (0, v3), some (0, μ 27 v3), none]) dX10_cutOff_24 ⟨Nat.le_of_ble_eq_true rfl, Nat.le_of_ble_eq_true rfl⟩ rfl ?_
    refine z_aload_n dX10_cutOff_26 rfl ?_
    refine n_getp (ji := 6) dX10_cutOff_27 zf_X10_33 k_29 rfl (by decide) rfl p_29_6 ?_
    refine n_getp (ji := 4) dX10_cutOff_30 zf_X10_86 k_23 rfl (by decide) rfl p_23_4 ?_
    refine z_iload dX10_cutOff_33 rfl ?_
    refine n_iald dX10_cutOff_35 k_28 (h.2 q2).2.1 ?_
    refine n_istore (lo' := [some (2, 29), some (0, v1), some (0, v2), some (0, v3), some (0, μ 27 v3), some (0, μ 28 (μ 27 v3))]) dX10_cutOff_36 ⟨Nat.le_of_ble_eq_true rfl, Nat.le_of_ble_eq_true rfl⟩ rfl ?_
    refine z_iload dX10_cutOff_38 rfl ?_
    refine z_iconst dX10_cutOff_40 ⟨by decide, by decide⟩ ?_
    refine z_icmp_eq (tgt := 76) dX10_cutOff_41 (by decide) (fun q3 => ?_) (fun q4 => ?_)
    · refine n_iinc (lo' := [some (2, 29), some (0, v1), some (0, v2), some (0, v3 + 1), some (0, μ 27 v3), some (0, μ 28 (μ 27 v3))]) dX10_cutOff_76 rfl (by decide) ((h.2 q2).2.2.1 q3).1 rfl ?_
      refine z_goto (tgt := 4) dX10_cutOff_79 (by decide) ?_
      refine z_drop [some (2, 29), some (0, v1), some (0, v2), some (0, v3 + 1), none, none] ⟨rfl, rfl, rfl, rfl, trivial⟩ ?_
      exact ((h.2 q2).2.2.1 q3).2
    · refine z_aload_n dX10_cutOff_44 rfl ?_
      refine n_getp (ji := 5) dX10_cutOff_45 zf_X10_29 k_29 rfl (by decide) rfl p_29_5 ?_
      refine n_getp (ji := 7) dX10_cutOff_48 zf_X10_89 k_6 rfl (by decide) rfl p_6_7 ?_
      refine z_iload dX10_cutOff_51 rfl ?_
      refine n_iald dX10_cutOff_53 k_12 ((h.2 q2).2.2.2 q4).1 ?_
      refine z_iload_n dX10_cutOff_54 rfl ?_
      refine z_icmp_eq (tgt := 69) dX10_cutOff_55 (by decide) (fun q5 => ?_) (fun q6 => ?_)
      · refine z_iload_n dX10_cutOff_69 rfl ?_
        refine z_iconst dX10_cutOff_70 ⟨by decide, by decide⟩ ?_
        refine z_iload dX10_cutOff_71 rfl ?_
        refine n_ishl1 dX10_cutOff_73 (((h.2 q2).2.2.2 q4).2.1 q5).1 ?_
        refine z_ior dX10_cutOff_74 (((h.2 q2).2.2.2 q4).2.1 q5).2.1.1 (((h.2 q2).2.2.2 q4).2.1 q5).2.1.2 ?_
        refine n_istore_n (lo' := [some (2, 29), some (0, v1), some (0, ((((v2 : Int).toNat ||| ((2 : Int) ^ (μ 27 v3 : Int).toNat : Int).toNat : Nat)) : Int)), some (0, v3), some (0, μ 27 v3), some (0, μ 28 (μ 27 v3))]) dX10_cutOff_75 ⟨Nat.le_of_ble_eq_true rfl, Nat.le_of_ble_eq_true rfl⟩ rfl ?_
        refine n_iinc (lo' := [some (2, 29), some (0, v1), some (0, ((((v2 : Int).toNat ||| ((2 : Int) ^ (μ 27 v3 : Int).toNat : Int).toNat : Nat)) : Int)), some (0, v3 + 1), some (0, μ 27 v3), some (0, μ 28 (μ 27 v3))]) dX10_cutOff_76 rfl (by decide) (((h.2 q2).2.2.2 q4).2.1 q5).2.2.1 rfl ?_
        refine z_goto (tgt := 4) dX10_cutOff_79 (by decide) ?_
        refine z_drop [some (2, 29), some (0, v1), some (0, ((((v2 : Int).toNat ||| ((2 : Int) ^ (μ 27 v3 : Int).toNat : Int).toNat : Nat)) : Int)), some (0, v3 + 1), none, none] ⟨rfl, rfl, rfl, rfl, trivial⟩ ?_
        exact (((h.2 q2).2.2.2 q4).2.1 q5).2.2.2
      · refine z_iload_n dX10_cutOff_58 rfl ?_
        refine z_iload dX10_cutOff_59 rfl ?_
        refine z_iconst dX10_cutOff_61 ⟨by decide, by decide⟩ ?_
        refine n_ishr (m := 4) dX10_cutOff_62 (by decide) (by decide) ?_
        refine n_iushr dX10_cutOff_63 (((h.2 q2).2.2.2 q4).2.2 q6).1 (((h.2 q2).2.2.2 q4).2.2 q6).2.1 ?_
        refine z_iconst dX10_cutOff_64 ⟨by decide, by decide⟩ ?_
        refine n_iandm (k := 1) (m := 2) dX10_cutOff_65 (by decide) (by decide) ?_
        refine z_if_eq (tgt := 76) dX10_cutOff_66 (by decide) (fun q7 => ?_) (fun q8 => ?_)
        · refine n_iinc (lo' := [some (2, 29), some (0, v1), some (0, v2), some (0, v3 + 1), some (0, μ 27 v3), some (0, μ 28 (μ 27 v3))]) dX10_cutOff_76 rfl (by decide) ((((h.2 q2).2.2.2 q4).2.2 q6).2.2.1 q7).1 rfl ?_
          refine z_goto (tgt := 4) dX10_cutOff_79 (by decide) ?_
          refine z_drop [some (2, 29), some (0, v1), some (0, v2), some (0, v3 + 1), none, none] ⟨rfl, rfl, rfl, rfl, trivial⟩ ?_
          exact ((((h.2 q2).2.2.2 q4).2.2 q6).2.2.1 q7).2
        · refine z_iload_n dX10_cutOff_69 rfl ?_
          refine z_iconst dX10_cutOff_70 ⟨by decide, by decide⟩ ?_
          refine z_iload dX10_cutOff_71 rfl ?_
          refine n_ishl1 dX10_cutOff_73 ((((h.2 q2).2.2.2 q4).2.2 q6).2.2.2 q8).1 ?_
          refine z_ior dX10_cutOff_74 ((((h.2 q2).2.2.2 q4).2.2 q6).2.2.2 q8).2.1.1 ((((h.2 q2).2.2.2 q4).2.2 q6).2.2.2 q8).2.1.2 ?_
          refine n_istore_n (lo' := [some (2, 29), some (0, v1), some (0, ((((v2 : Int).toNat ||| ((2 : Int) ^ (μ 27 v3 : Int).toNat : Int).toNat : Nat)) : Int)), some (0, v3), some (0, μ 27 v3), some (0, μ 28 (μ 27 v3))]) dX10_cutOff_75 ⟨Nat.le_of_ble_eq_true rfl, Nat.le_of_ble_eq_true rfl⟩ rfl ?_
          refine n_iinc (lo' := [some (2, 29), some (0, v1), some (0, ((((v2 : Int).toNat ||| ((2 : Int) ^ (μ 27 v3 : Int).toNat : Int).toNat : Nat)) : Int)), some (0, v3 + 1), some (0, μ 27 v3), some (0, μ 28 (μ 27 v3))]) dX10_cutOff_76 rfl (by decide) ((((h.2 q2).2.2.2 q4).2.2 q6).2.2.2 q8).2.2.1 rfl ?_
          refine z_goto (tgt := 4) dX10_cutOff_79 (by decide) ?_
          refine z_drop [some (2, 29), some (0, v1), some (0, ((((v2 : Int).toNat ||| ((2 : Int) ^ (μ 27 v3 : Int).toNat : Int).toNat : Nat)) : Int)), some (0, v3 + 1), none, none] ⟨rfl, rfl, rfl, rfl, trivial⟩ ?_
          exact ((((h.2 q2).2.2.2 q4).2.2 q6).2.2.2 q8).2.2.2
set_option maxRecDepth 20000 in
theorem V_X10_layDown {a : Int}  {μ : z_Mem} {d : Nat} {K : Int → z_Mem → Prop} (h : z_ri m_X10_layDown 2 [some (2, 29), some (0, a), some (0, 0), none, none, none, none] μ (d + 1) K) : z_ci m_X10_layDown [(2, 29), (0, a)] μ (d + 1) K := by
  show z_R m_X10_layDown 0 [some (2, 29), some (0, a), none, none, none, none, none] [] z_n μ (d + 1) _
  refine z_iconst dX10_layDown_0 ⟨by decide, by decide⟩ ?_
  refine n_istore_n (lo' := [some (2, 29), some (0, a), some (0, 0), none, none, none, none]) dX10_layDown_1 ⟨Nat.le_of_ble_eq_true rfl, Nat.le_of_ble_eq_true rfl⟩ rfl ?_
  refine z_drop [some (2, 29), some (0, a), some (0, 0), none, none, none, none] ⟨rfl, rfl, rfl, trivial⟩ ?_
  exact h
set_option maxRecDepth 20000 in
theorem V_X10_layDown_2 {v1 v2 : Int}  {μ : z_Mem} {d : Nat} {K : Int → z_Mem → Prop} (h : (64 ≤ v2 → z_ri m_X10_layDown 28 [some (2, 29), some (0, v1), some (0, 0), some (0, 0), some (0, 0), none, none] μ (d + 1) K) ∧ (v2 < 64 → ((0 : Int) ≤ v2 ∧ v2 < 64) ∧ (z_I (v2 + 1) ∧ (z_ri m_X10_layDown 2 [some (2, 29), some (0, v1), some (0, v2 + 1), none, none, none, none] (z_st μ 30 v2 0) (d + 1) K)))) : z_ri m_X10_layDown 2 [some (2, 29), some (0, v1), some (0, v2), none, none, none, none] μ (d + 1) K := by
  show z_R m_X10_layDown 2 [some (2, 29), some (0, v1), some (0, v2), none, none, none, none] [] z_n μ (d + 1) _
  refine z_iload_n dX10_layDown_2 rfl ?_
  refine z_bipush dX10_layDown_3 (by decide) ?_
  refine z_icmp_ge (tgt := 21) dX10_layDown_5 (by decide) (fun q1 => ?_) (fun q2 => ?_)
  · refine z_iconst dX10_layDown_21 ⟨by decide, by decide⟩ ?_
    refine n_istore_n (lo' := [some (2, 29), some (0, v1), some (0, 0), none, none, none, none]) dX10_layDown_22 ⟨Nat.le_of_ble_eq_true rfl, Nat.le_of_ble_eq_true rfl⟩ rfl ?_
    refine z_iconst dX10_layDown_23 ⟨by decide, by decide⟩ ?_
    refine n_istore_n (lo' := [some (2, 29), some (0, v1), some (0, 0), some (0, 0), none, none, none]) dX10_layDown_24 ⟨Nat.le_of_ble_eq_true rfl, Nat.le_of_ble_eq_true rfl⟩ rfl ?_
    refine z_iconst dX10_layDown_25 ⟨by decide, by decide⟩ ?_
    refine n_istore (lo' := [some (2, 29), some (0, v1), some (0, 0), some (0, 0), some (0, 0), none, none]) dX10_layDown_26 ⟨Nat.le_of_ble_eq_true rfl, Nat.le_of_ble_eq_true rfl⟩ rfl ?_
    refine z_drop [some (2, 29), some (0, v1), some (0, 0), some (0, 0), some (0, 0), none, none] ⟨rfl, rfl, rfl, rfl, rfl, trivial⟩ ?_
    exact (h.1 q1)
  · refine z_aload_n dX10_layDown_8 rfl ?_
    refine n_getp (ji := 4) dX10_layDown_9 zf_X10_25 k_29 rfl (by decide) rfl p_29_4 ?_
    refine z_iload_n dX10_layDown_12 rfl ?_
    refine z_lconst0 dX10_layDown_13 ?_
    refine n_last dX10_layDown_14 k_30 (h.2 q2).1 ?_
    refine n_iinc (lo' := [some (2, 29), some (0, v1), some (0, v2 + 1), none, none, none, none]) dX10_layDown_15 rfl (by decide) (h.2 q2).2.1 rfl ?_
    refine z_goto (tgt := 2) dX10_layDown_18 (by decide) ?_
    refine z_drop [some (2, 29), some (0, v1), some (0, v2 + 1), none, none, none, none] ⟨rfl, rfl, rfl, trivial⟩ ?_
    exact (h.2 q2).2.2
set_option maxRecDepth 20000 in
theorem V_X10_layDown_28 {v1 v2 v3 v4 : Int}  {μ : z_Mem} {d : Nat} {K : Int → z_Mem → Prop} (h : (30 ≤ v4 → K v2 μ) ∧ (v4 < 30 → ((0 : Int) ≤ v4 ∧ v4 < 32) ∧ (((0 : Int) ≤ v1) ∧ (((v1 / 2 ^ (v4 : Int).toNat) % 2 = 0 → z_I (v4 + 1) ∧ (z_ri m_X10_layDown 28 [some (2, 29), some (0, v1), some (0, v2), some (0, v3), some (0, v4 + 1), none, none] μ (d + 1) K)) ∧ (¬ (v1 / 2 ^ (v4 : Int).toNat) % 2 = 0 → ((0 : Int) ≤ v4 ∧ v4 < 30) ∧ (((0 : Int) ≤ v4 ∧ v4 < 30) ∧ (z_ci m_X10_howManyAt [(2, 29), (0, v3), (0, μ 24 v4), (0, μ 25 v4)] μ d (fun x7 m5 => z_I (v2 + x7) ∧ (z_I ((μ 25 v4) + 32) ∧ (((0 : Int) ≤ ((μ 25 v4) + 32) % 64 ∧ ((μ 25 v4) + 32) % 64 < 64) ∧ (z_I ((μ 24 v4) + 32) ∧ (((0 : Int) ≤ ((μ 24 v4) + 32) % 64 ∧ ((μ 24 v4) + 32) % 64 < 63) ∧ (((0 : Int) ≤ m5 30 (((μ 25 v4) + 32) % 64) ∧ (0 : Int) ≤ (2 : Int) ^ (((μ 24 v4) + 32) % 64 : Int).toNat) ∧ (((0 : Int) ≤ ((μ 25 v4) + 32) % 64 ∧ ((μ 25 v4) + 32) % 64 < 64) ∧ (((0 : Int) ≤ v4 ∧ v4 < 31) ∧ (((0 : Int) ≤ v3 ∧ (0 : Int) ≤ (2 : Int) ^ (v4 : Int).toNat) ∧ (z_I (v4 + 1) ∧ (z_ri m_X10_layDown 28 [some (2, 29), some (0, v1), some (0, v2 + x7), some (0, ((((v3 : Int).toNat ||| ((2 : Int) ^ (v4 : Int).toNat : Int).toNat : Nat)) : Int)), some (0, v4 + 1), none, none] (z_st m5 30 (((μ 25 v4) + 32) % 64) ((((m5 30 (((μ 25 v4) + 32) % 64) : Int).toNat ||| ((2 : Int) ^ (((μ 24 v4) + 32) % 64 : Int).toNat : Int).toNat : Nat)) : Int)) (d + 1) K)))))))))))))))))) : z_ri m_X10_layDown 28 [some (2, 29), some (0, v1), some (0, v2), some (0, v3), some (0, v4), none, none] μ (d + 1) K := by
  show z_R m_X10_layDown 28 [some (2, 29), some (0, v1), some (0, v2), some (0, v3), some (0, v4), none, none] [] z_n μ (d + 1) _
  refine z_iload dX10_layDown_28 rfl ?_
  refine z_bipush dX10_layDown_30 (by decide) ?_
  refine z_icmp_ge (tgt := 119) dX10_layDown_32 (by decide) (fun q1 => ?_) (fun q2 => ?_)
  · refine z_iload_n dX10_layDown_119 rfl ?_
    exact z_ireturn dX10_layDown_120 rfl rfl ⟨_, rfl, (h.1 q1)⟩
  · refine z_iload_n dX10_layDown_35 rfl ?_
    refine z_iload dX10_layDown_36 rfl ?_
    refine n_iushr dX10_layDown_38 (h.2 q2).1 (h.2 q2).2.1 ?_
    refine z_iconst dX10_layDown_39 ⟨by decide, by decide⟩ ?_
    refine n_iandm (k := 1) (m := 2) dX10_layDown_40 (by decide) (by decide) ?_
    refine z_if_eq (tgt := 113) dX10_layDown_41 (by decide) (fun q3 => ?_) (fun q4 => ?_)
    · refine n_iinc (lo' := [some (2, 29), some (0, v1), some (0, v2), some (0, v3), some (0, v4 + 1), none, none]) dX10_layDown_113 rfl (by decide) ((h.2 q2).2.2.1 q3).1 rfl ?_
      refine z_goto (tgt := 28) dX10_layDown_116 (by decide) ?_
      refine z_drop [some (2, 29), some (0, v1), some (0, v2), some (0, v3), some (0, v4 + 1), none, none] ⟨rfl, rfl, rfl, rfl, rfl, trivial⟩ ?_
      exact ((h.2 q2).2.2.1 q3).2
    · refine z_aload_n dX10_layDown_44 rfl ?_
      refine n_getp (ji := 6) dX10_layDown_45 zf_X10_33 k_29 rfl (by decide) rfl p_29_6 ?_
      refine n_getp (ji := 0) dX10_layDown_48 zf_X10_92 k_23 rfl (by decide) rfl p_23_0 ?_
      refine z_iload dX10_layDown_51 rfl ?_
      refine n_iald dX10_layDown_53 k_24 ((h.2 q2).2.2.2 q4).1 ?_
      refine n_istore (lo' := [some (2, 29), some (0, v1), some (0, v2), some (0, v3), some (0, v4), some (0, μ 24 v4), none]) dX10_layDown_54 ⟨Nat.le_of_ble_eq_true rfl, Nat.le_of_ble_eq_true rfl⟩ rfl ?_
      refine z_aload_n dX10_layDown_56 rfl ?_
      refine n_getp (ji := 6) dX10_layDown_57 zf_X10_33 k_29 rfl (by decide) rfl p_29_6 ?_
      refine n_getp (ji := 1) dX10_layDown_60 zf_X10_95 k_23 rfl (by decide) rfl p_23_1 ?_
      refine z_iload dX10_layDown_63 rfl ?_
      refine n_iald dX10_layDown_65 k_25 ((h.2 q2).2.2.2 q4).2.1 ?_
      refine n_istore (lo' := [some (2, 29), some (0, v1), some (0, v2), some (0, v3), some (0, v4), some (0, μ 24 v4), some (0, μ 25 v4)]) dX10_layDown_66 ⟨Nat.le_of_ble_eq_true rfl, Nat.le_of_ble_eq_true rfl⟩ rfl ?_
      refine z_iload_n dX10_layDown_68 rfl ?_
      refine z_aload_n dX10_layDown_69 rfl ?_
      refine z_iload_n dX10_layDown_70 rfl ?_
      refine z_iload dX10_layDown_71 rfl ?_
      refine z_iload dX10_layDown_73 rfl ?_
      refine n_vI (as := [(0, v3), (0, μ 24 v4), (0, μ 25 v4)]) (rest := [(0, v2)]) dX10_layDown_75 zm_X10_howManyAt zs_X10_98 k_29 (by decide) rfl rfl (Nat.le_of_ble_eq_true rfl) (Nat.le_of_ble_eq_true rfl) ((h.2 q2).2.2.2 q4).2.2 (fun x7 m5 h6 => ?_)
      refine z_iadd dX10_layDown_78 h6.1 ?_
      refine n_istore_n (lo' := [some (2, 29), some (0, v1), some (0, v2 + x7), some (0, v3), some (0, v4), some (0, μ 24 v4), some (0, μ 25 v4)]) dX10_layDown_79 ⟨Nat.le_of_ble_eq_true rfl, Nat.le_of_ble_eq_true rfl⟩ rfl ?_
      refine z_aload_n dX10_layDown_80 rfl ?_
      refine n_getp (ji := 4) dX10_layDown_81 zf_X10_25 k_29 rfl (by decide) rfl p_29_4 ?_
      refine z_iload dX10_layDown_84 rfl ?_
      refine z_bipush dX10_layDown_86 (by decide) ?_
      refine z_iadd dX10_layDown_88 h6.2.1 ?_
      refine z_bipush dX10_layDown_89 (by decide) ?_
      refine n_iandm (k := 6) (m := 64) dX10_layDown_91 (by decide) (by decide) ?_
      refine z_dup2 dX10_layDown_92 rfl rfl ?_
      refine n_lald dX10_layDown_93 k_30 h6.2.2.1 ?_
      refine z_lconst1 dX10_layDown_94 ?_
      refine z_iload dX10_layDown_95 rfl ?_
      refine z_bipush dX10_layDown_97 (by decide) ?_
      refine z_iadd dX10_layDown_99 h6.2.2.2.1 ?_
      refine z_bipush dX10_layDown_100 (by decide) ?_
      refine n_iandm (k := 6) (m := 64) dX10_layDown_102 (by decide) (by decide) ?_
      refine n_lshl1 dX10_layDown_103 h6.2.2.2.2.1 ?_
      refine z_lor dX10_layDown_104 h6.2.2.2.2.2.1.1 h6.2.2.2.2.2.1.2 ?_
      refine n_last dX10_layDown_105 k_30 h6.2.2.2.2.2.2.1 ?_
      refine z_iload_n dX10_layDown_106 rfl ?_
      refine z_iconst dX10_layDown_107 ⟨by decide, by decide⟩ ?_
      refine z_iload dX10_layDown_108 rfl ?_
      refine n_ishl1 dX10_layDown_110 h6.2.2.2.2.2.2.2.1 ?_
      refine z_ior dX10_layDown_111 h6.2.2.2.2.2.2.2.2.1.1 h6.2.2.2.2.2.2.2.2.1.2 ?_
      refine n_istore_n (lo' := [some (2, 29), some (0, v1), some (0, v2 + x7), some (0, ((((v3 : Int).toNat ||| ((2 : Int) ^ (v4 : Int).toNat : Int).toNat : Nat)) : Int)), some (0, v4), some (0, μ 24 v4), some (0, μ 25 v4)]) dX10_layDown_112 ⟨Nat.le_of_ble_eq_true rfl, Nat.le_of_ble_eq_true rfl⟩ rfl ?_
      refine n_iinc (lo' := [some (2, 29), some (0, v1), some (0, v2 + x7), some (0, ((((v3 : Int).toNat ||| ((2 : Int) ^ (v4 : Int).toNat : Int).toNat : Nat)) : Int)), some (0, v4 + 1), some (0, μ 24 v4), some (0, μ 25 v4)]) dX10_layDown_113 rfl (by decide) h6.2.2.2.2.2.2.2.2.2.1 rfl ?_
      refine z_goto (tgt := 28) dX10_layDown_116 (by decide) ?_
      refine z_drop [some (2, 29), some (0, v1), some (0, v2 + x7), some (0, ((((v3 : Int).toNat ||| ((2 : Int) ^ (v4 : Int).toNat : Int).toNat : Nat)) : Int)), some (0, v4 + 1), none, none] ⟨rfl, rfl, rfl, rfl, rfl, trivial⟩ ?_
      exact h6.2.2.2.2.2.2.2.2.2.2
set_option maxRecDepth 20000 in
theorem V_X10_howManyAt {a b c : Int}  {μ : z_Mem} {d : Nat} {K : Int → z_Mem → Prop} (h : z_I (c + 32) ∧ (((0 : Int) ≤ (c + 32) % 64 ∧ (c + 32) % 64 < 64) ∧ (z_I (b + 32) ∧ (((0 : Int) ≤ (b + 32) % 64 ∧ (b + 32) % 64 < 64) ∧ (((0 : Int) ≤ μ 30 ((c + 32) % 64)) ∧ (((0 : Int) ≤ (μ 30 ((c + 32) % 64)) / 2 ^ ((b + 32) % 64 : Int).toNat ∧ (0 : Int) ≤ 1) ∧ ((¬ (((((μ 30 ((c + 32) % 64)) / 2 ^ ((b + 32) % 64 : Int).toNat : Int).toNat &&& (1 : Int).toNat : Nat)) : Int) = 0 → z_ri m_X10_howManyAt 35 [some (2, 29), some (0, a), some (0, b), some (0, c), some (0, 0), some (0, 0)] μ d K) ∧ ((((((μ 30 ((c + 32) % 64)) / 2 ^ ((b + 32) % 64 : Int).toNat : Int).toNat &&& (1 : Int).toNat : Nat)) : Int) = 0 → K 0 μ)))))))) : z_ci m_X10_howManyAt [(2, 29), (0, a), (0, b), (0, c)] μ d K := by
  show z_R m_X10_howManyAt 0 [some (2, 29), some (0, a), some (0, b), some (0, c), none, none] [] z_n μ d _
  refine z_aload_n dX10_howManyAt_0 rfl ?_
  refine n_getp (ji := 4) dX10_howManyAt_1 zf_X10_25 k_29 rfl (by decide) rfl p_29_4 ?_
  refine z_iload_n dX10_howManyAt_4 rfl ?_
  refine z_bipush dX10_howManyAt_5 (by decide) ?_
  refine z_iadd dX10_howManyAt_7 h.1 ?_
  refine z_bipush dX10_howManyAt_8 (by decide) ?_
  refine n_iandm (k := 6) (m := 64) dX10_howManyAt_10 (by decide) (by decide) ?_
  refine n_lald dX10_howManyAt_11 k_30 h.2.1 ?_
  refine z_iload_n dX10_howManyAt_12 rfl ?_
  refine z_bipush dX10_howManyAt_13 (by decide) ?_
  refine z_iadd dX10_howManyAt_15 h.2.2.1 ?_
  refine z_bipush dX10_howManyAt_16 (by decide) ?_
  refine n_iandm (k := 6) (m := 64) dX10_howManyAt_18 (by decide) (by decide) ?_
  refine n_lushr dX10_howManyAt_19 h.2.2.2.1 h.2.2.2.2.1 ?_
  refine z_lconst1 dX10_howManyAt_20 ?_
  refine z_land dX10_howManyAt_21 h.2.2.2.2.2.1.1 h.2.2.2.2.2.1.2 ?_
  refine z_lconst0 dX10_howManyAt_22 ?_
  refine z_lcmp_ne (tgt := 29) dX10_howManyAt_23 dX10_howManyAt_24 (by decide) (fun q1 => ?_) (fun q2 => ?_)
  · refine z_iconst dX10_howManyAt_29 ⟨by decide, by decide⟩ ?_
    refine n_istore (lo' := [some (2, 29), some (0, a), some (0, b), some (0, c), some (0, 0), none]) dX10_howManyAt_30 ⟨Nat.le_of_ble_eq_true rfl, Nat.le_of_ble_eq_true rfl⟩ rfl ?_
    refine z_iconst dX10_howManyAt_32 ⟨by decide, by decide⟩ ?_
    refine n_istore (lo' := [some (2, 29), some (0, a), some (0, b), some (0, c), some (0, 0), some (0, 0)]) dX10_howManyAt_33 ⟨Nat.le_of_ble_eq_true rfl, Nat.le_of_ble_eq_true rfl⟩ rfl ?_
    refine z_drop [some (2, 29), some (0, a), some (0, b), some (0, c), some (0, 0), some (0, 0)] ⟨rfl, rfl, rfl, rfl, rfl, rfl, trivial⟩ ?_
    exact (h.2.2.2.2.2.2.1 q1)
  · refine z_iconst dX10_howManyAt_27 ⟨by decide, by decide⟩ ?_
    exact z_ireturn dX10_howManyAt_28 rfl rfl ⟨_, rfl, (h.2.2.2.2.2.2.2 q2)⟩
set_option maxRecDepth 20000 in
theorem V_X10_howManyAt_35 {v1 v2 v3 v4 v5 : Int}  {μ : z_Mem} {d : Nat} {K : Int → z_Mem → Prop} (h : (30 ≤ v5 → K v4 μ) ∧ (v5 < 30 → ((0 : Int) ≤ v5 ∧ v5 < 32) ∧ (((0 : Int) ≤ v1) ∧ (((v1 / 2 ^ (v5 : Int).toNat) % 2 = 0 → z_I (v5 + 1) ∧ (z_ri m_X10_howManyAt 35 [some (2, 29), some (0, v1), some (0, v2), some (0, v3), some (0, v4), some (0, v5 + 1)] μ d K)) ∧ (¬ (v1 / 2 ^ (v5 : Int).toNat) % 2 = 0 → ((0 : Int) ≤ v5 ∧ v5 < 30) ∧ ((¬ μ 24 v5 = v2 → z_I (v5 + 1) ∧ (z_ri m_X10_howManyAt 35 [some (2, 29), some (0, v1), some (0, v2), some (0, v3), some (0, v4), some (0, v5 + 1)] μ d K)) ∧ (μ 24 v5 = v2 → ((0 : Int) ≤ v5 ∧ v5 < 30) ∧ ((¬ μ 25 v5 = v3 → z_I (v5 + 1) ∧ (z_ri m_X10_howManyAt 35 [some (2, 29), some (0, v1), some (0, v2), some (0, v3), some (0, v4), some (0, v5 + 1)] μ d K)) ∧ (μ 25 v5 = v3 → z_I (v4 + 1) ∧ (z_I (v5 + 1) ∧ (z_ri m_X10_howManyAt 35 [some (2, 29), some (0, v1), some (0, v2), some (0, v3), some (0, v4 + 1), some (0, v5 + 1)] μ d K))))))))))) : z_ri m_X10_howManyAt 35 [some (2, 29), some (0, v1), some (0, v2), some (0, v3), some (0, v4), some (0, v5)] μ d K := by
  show z_R m_X10_howManyAt 35 [some (2, 29), some (0, v1), some (0, v2), some (0, v3), some (0, v4), some (0, v5)] [] z_n μ d _
  refine z_iload dX10_howManyAt_35 rfl ?_
  refine z_bipush dX10_howManyAt_37 (by decide) ?_
  refine z_icmp_ge (tgt := 88) dX10_howManyAt_39 (by decide) (fun q1 => ?_) (fun q2 => ?_)
  · refine z_iload dX10_howManyAt_88 rfl ?_
    exact z_ireturn dX10_howManyAt_90 rfl rfl ⟨_, rfl, (h.1 q1)⟩
  · refine z_iload_n dX10_howManyAt_42 rfl ?_
    refine z_iload dX10_howManyAt_43 rfl ?_
    refine n_iushr dX10_howManyAt_45 (h.2 q2).1 (h.2 q2).2.1 ?_
    refine z_iconst dX10_howManyAt_46 ⟨by decide, by decide⟩ ?_
    refine n_iandm (k := 1) (m := 2) dX10_howManyAt_47 (by decide) (by decide) ?_
    refine z_if_eq (tgt := 82) dX10_howManyAt_48 (by decide) (fun q3 => ?_) (fun q4 => ?_)
    · refine n_iinc (lo' := [some (2, 29), some (0, v1), some (0, v2), some (0, v3), some (0, v4), some (0, v5 + 1)]) dX10_howManyAt_82 rfl (by decide) ((h.2 q2).2.2.1 q3).1 rfl ?_
      refine z_goto (tgt := 35) dX10_howManyAt_85 (by decide) ?_
      refine z_drop [some (2, 29), some (0, v1), some (0, v2), some (0, v3), some (0, v4), some (0, v5 + 1)] ⟨rfl, rfl, rfl, rfl, rfl, rfl, trivial⟩ ?_
      exact ((h.2 q2).2.2.1 q3).2
    · refine z_aload_n dX10_howManyAt_51 rfl ?_
      refine n_getp (ji := 6) dX10_howManyAt_52 zf_X10_33 k_29 rfl (by decide) rfl p_29_6 ?_
      refine n_getp (ji := 0) dX10_howManyAt_55 zf_X10_92 k_23 rfl (by decide) rfl p_23_0 ?_
      refine z_iload dX10_howManyAt_58 rfl ?_
      refine n_iald dX10_howManyAt_60 k_24 ((h.2 q2).2.2.2 q4).1 ?_
      refine z_iload_n dX10_howManyAt_61 rfl ?_
      refine z_icmp_ne (tgt := 82) dX10_howManyAt_62 (by decide) (fun q5 => ?_) (fun q6 => ?_)
      · refine n_iinc (lo' := [some (2, 29), some (0, v1), some (0, v2), some (0, v3), some (0, v4), some (0, v5 + 1)]) dX10_howManyAt_82 rfl (by decide) (((h.2 q2).2.2.2 q4).2.1 q5).1 rfl ?_
        refine z_goto (tgt := 35) dX10_howManyAt_85 (by decide) ?_
        refine z_drop [some (2, 29), some (0, v1), some (0, v2), some (0, v3), some (0, v4), some (0, v5 + 1)] ⟨rfl, rfl, rfl, rfl, rfl, rfl, trivial⟩ ?_
        exact (((h.2 q2).2.2.2 q4).2.1 q5).2
      · refine z_aload_n dX10_howManyAt_65 rfl ?_
        refine n_getp (ji := 6) dX10_howManyAt_66 zf_X10_33 k_29 rfl (by decide) rfl p_29_6 ?_
        refine n_getp (ji := 1) dX10_howManyAt_69 zf_X10_95 k_23 rfl (by decide) rfl p_23_1 ?_
        refine z_iload dX10_howManyAt_72 rfl ?_
        refine n_iald dX10_howManyAt_74 k_25 (((h.2 q2).2.2.2 q4).2.2 q6).1 ?_
        refine z_iload_n dX10_howManyAt_75 rfl ?_
        refine z_icmp_ne (tgt := 82) dX10_howManyAt_76 (by decide) (fun q7 => ?_) (fun q8 => ?_)
        · refine n_iinc (lo' := [some (2, 29), some (0, v1), some (0, v2), some (0, v3), some (0, v4), some (0, v5 + 1)]) dX10_howManyAt_82 rfl (by decide) ((((h.2 q2).2.2.2 q4).2.2 q6).2.1 q7).1 rfl ?_
          refine z_goto (tgt := 35) dX10_howManyAt_85 (by decide) ?_
          refine z_drop [some (2, 29), some (0, v1), some (0, v2), some (0, v3), some (0, v4), some (0, v5 + 1)] ⟨rfl, rfl, rfl, rfl, rfl, rfl, trivial⟩ ?_
          exact ((((h.2 q2).2.2.2 q4).2.2 q6).2.1 q7).2
        · refine n_iinc (lo' := [some (2, 29), some (0, v1), some (0, v2), some (0, v3), some (0, v4 + 1), some (0, v5)]) dX10_howManyAt_79 rfl (by decide) ((((h.2 q2).2.2.2 q4).2.2 q6).2.2 q8).1 rfl ?_
          refine n_iinc (lo' := [some (2, 29), some (0, v1), some (0, v2), some (0, v3), some (0, v4 + 1), some (0, v5 + 1)]) dX10_howManyAt_82 rfl (by decide) ((((h.2 q2).2.2.2 q4).2.2 q6).2.2 q8).2.1 rfl ?_
          refine z_goto (tgt := 35) dX10_howManyAt_85 (by decide) ?_
          refine z_drop [some (2, 29), some (0, v1), some (0, v2), some (0, v3), some (0, v4 + 1), some (0, v5 + 1)] ⟨rfl, rfl, rfl, rfl, rfl, rfl, trivial⟩ ?_
          exact ((((h.2 q2).2.2.2 q4).2.2 q6).2.2 q8).2.2
set_option maxRecDepth 20000 in
theorem V_X10_between {a b c : Int}  {μ : z_Mem} {d : Nat} {K : Int → z_Mem → Prop} (h : z_ci m_X6_turnBehind [(2, 23), (0, b), (0, c)] μ d (fun x3 m1 => ((0 : Int) ≤ c / 4 ∧ c / 4 < 30) ∧ (z_I (x3 - (m1 26 (c / 4))) ∧ (z_ri m_X10_between 35 [some (2, 29), some (0, a), some (0, b), none, some (0, c / 4), some (0, (x3 - (m1 26 (c / 4))) % 4), some (0, 0), some (0, 0), none, none, none, none] m1 (d + 1) K)))) : z_ci m_X10_between [(2, 29), (0, a), (0, b), (0, c)] μ (d + 1) K := by
  show z_R m_X10_between 0 [some (2, 29), some (0, a), some (0, b), some (0, c), none, none, none, none, none, none, none, none] [] z_n μ (d + 1) _
  refine z_iload_n dX10_between_0 rfl ?_
  refine z_iconst dX10_between_1 ⟨by decide, by decide⟩ ?_
  refine n_ishr (m := 4) dX10_between_2 (by decide) (by decide) ?_
  refine n_istore (lo' := [some (2, 29), some (0, a), some (0, b), some (0, c), some (0, c / 4), none, none, none, none, none, none, none]) dX10_between_3 ⟨Nat.le_of_ble_eq_true rfl, Nat.le_of_ble_eq_true rfl⟩ rfl ?_
  refine z_aload_n dX10_between_5 rfl ?_
  refine n_getp (ji := 6) dX10_between_6 zf_X10_33 k_29 rfl (by decide) rfl p_29_6 ?_
  refine z_iload_n dX10_between_9 rfl ?_
  refine z_iload_n dX10_between_10 rfl ?_
  refine n_vI (as := [(0, b), (0, c)]) (rest := []) dX10_between_11 zm_X6_turnBehind zs_X10_101 k_23 (by decide) rfl rfl (Nat.le_of_ble_eq_true rfl) (Nat.le_of_ble_eq_true rfl) h (fun x3 m1 h2 => ?_)
  refine z_aload_n dX10_between_14 rfl ?_
  refine n_getp (ji := 6) dX10_between_15 zf_X10_33 k_29 rfl (by decide) rfl p_29_6 ?_
  refine n_getp (ji := 2) dX10_between_18 zf_X10_104 k_23 rfl (by decide) rfl p_23_2 ?_
  refine z_iload dX10_between_21 rfl ?_
  refine n_iald dX10_between_23 k_26 h2.1 ?_
  refine z_isub dX10_between_24 h2.2.1 ?_
  refine z_iconst dX10_between_25 ⟨by decide, by decide⟩ ?_
  refine n_iandm (k := 2) (m := 4) dX10_between_26 (by decide) (by decide) ?_
  refine n_istore (lo' := [some (2, 29), some (0, a), some (0, b), some (0, c), some (0, c / 4), some (0, (x3 - (m1 26 (c / 4))) % 4), none, none, none, none, none, none]) dX10_between_27 ⟨Nat.le_of_ble_eq_true rfl, Nat.le_of_ble_eq_true rfl⟩ rfl ?_
  refine z_iconst dX10_between_29 ⟨by decide, by decide⟩ ?_
  refine n_istore (lo' := [some (2, 29), some (0, a), some (0, b), some (0, c), some (0, c / 4), some (0, (x3 - (m1 26 (c / 4))) % 4), some (0, 0), none, none, none, none, none]) dX10_between_30 ⟨Nat.le_of_ble_eq_true rfl, Nat.le_of_ble_eq_true rfl⟩ rfl ?_
  refine z_iconst dX10_between_32 ⟨by decide, by decide⟩ ?_
  refine n_istore (lo' := [some (2, 29), some (0, a), some (0, b), some (0, c), some (0, c / 4), some (0, (x3 - (m1 26 (c / 4))) % 4), some (0, 0), some (0, 0), none, none, none, none]) dX10_between_33 ⟨Nat.le_of_ble_eq_true rfl, Nat.le_of_ble_eq_true rfl⟩ rfl ?_
  refine z_drop [some (2, 29), some (0, a), some (0, b), none, some (0, c / 4), some (0, (x3 - (m1 26 (c / 4))) % 4), some (0, 0), some (0, 0), none, none, none, none] ⟨rfl, rfl, rfl, rfl, rfl, rfl, rfl, trivial⟩ ?_
  exact h2.2.2
set_option maxRecDepth 20000 in
theorem V_X10_between_35 {v1 v2 v4 v5 v6 v7 : Int}  {μ : z_Mem} {d : Nat} {K : Int → z_Mem → Prop} (h : (30 ≤ v7 → K v6 μ) ∧ (v7 < 30 → ((0 : Int) ≤ v7 ∧ v7 < 32) ∧ (((0 : Int) ≤ v1) ∧ (((v1 / 2 ^ (v7 : Int).toNat) % 2 = 0 → z_I (v7 + 1) ∧ (z_ri m_X10_between 35 [some (2, 29), some (0, v1), some (0, v2), none, some (0, v4), some (0, v5), some (0, v6), some (0, v7 + 1), none, none, none, none] μ (d + 1) K)) ∧ (¬ (v1 / 2 ^ (v7 : Int).toNat) % 2 = 0 → ((0 : Int) ≤ v7 ∧ v7 < 30) ∧ (((0 : Int) ≤ v4 ∧ v4 < 30) ∧ (z_I ((μ 24 v7) - (μ 24 v4)) ∧ (((0 : Int) ≤ v7 ∧ v7 < 30) ∧ (((0 : Int) ≤ v4 ∧ v4 < 30) ∧ (z_I ((μ 25 v7) - (μ 25 v4)) ∧ (z_ci m_X6_xBehind [(2, 23), (0, v2)] μ d (fun x7 m5 => ((0 : Int) ≤ v5 ∧ v5 < 4) ∧ (z_I (((μ 24 v7) - (μ 24 v4)) * (z_S 1 v5)) ∧ (z_I (x7 + (((μ 24 v7) - (μ 24 v4)) * (z_S 1 v5))) ∧ (((0 : Int) ≤ v5 ∧ v5 < 4) ∧ (z_I (((μ 25 v7) - (μ 25 v4)) * (z_S 2 v5)) ∧ (z_I ((x7 + (((μ 24 v7) - (μ 24 v4)) * (z_S 1 v5))) - (((μ 25 v7) - (μ 25 v4)) * (z_S 2 v5))) ∧ (z_ci m_X6_yBehind [(2, 23), (0, v2)] m5 d (fun x10 m8 => ((0 : Int) ≤ v5 ∧ v5 < 4) ∧ (z_I (((μ 24 v7) - (μ 24 v4)) * (z_S 2 v5)) ∧ (z_I (x10 + (((μ 24 v7) - (μ 24 v4)) * (z_S 2 v5))) ∧ (((0 : Int) ≤ v5 ∧ v5 < 4) ∧ (z_I (((μ 25 v7) - (μ 25 v4)) * (z_S 1 v5)) ∧ (z_I ((x10 + (((μ 24 v7) - (μ 24 v4)) * (z_S 2 v5))) + (((μ 25 v7) - (μ 25 v4)) * (z_S 1 v5))) ∧ (((0 : Int) ≤ m8 23 5 ∧ (0 : Int) ≤ v1) ∧ (z_ci m_X10_howManyAt [(2, 29), (0, ((((m8 23 5 : Int).toNat ^^^ ((m8 23 5 : Int).toNat &&& (v1 : Int).toNat) : Nat)) : Int)), (0, (x7 + (((μ 24 v7) - (μ 24 v4)) * (z_S 1 v5))) - (((μ 25 v7) - (μ 25 v4)) * (z_S 2 v5))), (0, (x10 + (((μ 24 v7) - (μ 24 v4)) * (z_S 2 v5))) + (((μ 25 v7) - (μ 25 v4)) * (z_S 1 v5)))] m8 d (fun x13 m11 => z_I (v6 + x13) ∧ (z_I (v7 + 1) ∧ (z_ri m_X10_between 35 [some (2, 29), some (0, v1), some (0, v2), none, some (0, v4), some (0, v5), some (0, v6 + x13), some (0, v7 + 1), none, none, none, none] m11 (d + 1) K))))))))))))))))))))))))))))) : z_ri m_X10_between 35 [some (2, 29), some (0, v1), some (0, v2), none, some (0, v4), some (0, v5), some (0, v6), some (0, v7), none, none, none, none] μ (d + 1) K := by
  show z_R m_X10_between 35 [some (2, 29), some (0, v1), some (0, v2), none, some (0, v4), some (0, v5), some (0, v6), some (0, v7), none, none, none, none] [] z_n μ (d + 1) _
  refine z_iload dX10_between_35 rfl ?_
  refine z_bipush dX10_between_37 (by decide) ?_
  refine z_icmp_ge (tgt := 187) dX10_between_39 (by decide) (fun q1 => ?_) (fun q2 => ?_)
  · refine z_iload dX10_between_187 rfl ?_
    exact z_ireturn dX10_between_189 rfl rfl ⟨_, rfl, (h.1 q1)⟩
  · refine z_iload_n dX10_between_42 rfl ?_
    refine z_iload dX10_between_43 rfl ?_
    refine n_iushr dX10_between_45 (h.2 q2).1 (h.2 q2).2.1 ?_
    refine z_iconst dX10_between_46 ⟨by decide, by decide⟩ ?_
    refine n_iandm (k := 1) (m := 2) dX10_between_47 (by decide) (by decide) ?_
    refine z_if_eq (tgt := 181) dX10_between_48 (by decide) (fun q3 => ?_) (fun q4 => ?_)
    · refine n_iinc (lo' := [some (2, 29), some (0, v1), some (0, v2), none, some (0, v4), some (0, v5), some (0, v6), some (0, v7 + 1), none, none, none, none]) dX10_between_181 rfl (by decide) ((h.2 q2).2.2.1 q3).1 rfl ?_
      refine z_goto (tgt := 35) dX10_between_184 (by decide) ?_
      refine z_drop [some (2, 29), some (0, v1), some (0, v2), none, some (0, v4), some (0, v5), some (0, v6), some (0, v7 + 1), none, none, none, none] ⟨rfl, rfl, rfl, rfl, rfl, rfl, rfl, trivial⟩ ?_
      exact ((h.2 q2).2.2.1 q3).2
    · refine z_aload_n dX10_between_51 rfl ?_
      refine n_getp (ji := 6) dX10_between_52 zf_X10_33 k_29 rfl (by decide) rfl p_29_6 ?_
      refine n_getp (ji := 0) dX10_between_55 zf_X10_92 k_23 rfl (by decide) rfl p_23_0 ?_
      refine z_iload dX10_between_58 rfl ?_
      refine n_iald dX10_between_60 k_24 ((h.2 q2).2.2.2 q4).1 ?_
      refine z_aload_n dX10_between_61 rfl ?_
      refine n_getp (ji := 6) dX10_between_62 zf_X10_33 k_29 rfl (by decide) rfl p_29_6 ?_
      refine n_getp (ji := 0) dX10_between_65 zf_X10_92 k_23 rfl (by decide) rfl p_23_0 ?_
      refine z_iload dX10_between_68 rfl ?_
      refine n_iald dX10_between_70 k_24 ((h.2 q2).2.2.2 q4).2.1 ?_
      refine z_isub dX10_between_71 ((h.2 q2).2.2.2 q4).2.2.1 ?_
      refine n_istore (lo' := [some (2, 29), some (0, v1), some (0, v2), none, some (0, v4), some (0, v5), some (0, v6), some (0, v7), some (0, (μ 24 v7) - (μ 24 v4)), none, none, none]) dX10_between_72 ⟨Nat.le_of_ble_eq_true rfl, Nat.le_of_ble_eq_true rfl⟩ rfl ?_
      refine z_aload_n dX10_between_74 rfl ?_
      refine n_getp (ji := 6) dX10_between_75 zf_X10_33 k_29 rfl (by decide) rfl p_29_6 ?_
      refine n_getp (ji := 1) dX10_between_78 zf_X10_95 k_23 rfl (by decide) rfl p_23_1 ?_
      refine z_iload dX10_between_81 rfl ?_
      refine n_iald dX10_between_83 k_25 ((h.2 q2).2.2.2 q4).2.2.2.1 ?_
      refine z_aload_n dX10_between_84 rfl ?_
      refine n_getp (ji := 6) dX10_between_85 zf_X10_33 k_29 rfl (by decide) rfl p_29_6 ?_
      refine n_getp (ji := 1) dX10_between_88 zf_X10_95 k_23 rfl (by decide) rfl p_23_1 ?_
      refine z_iload dX10_between_91 rfl ?_
      refine n_iald dX10_between_93 k_25 ((h.2 q2).2.2.2 q4).2.2.2.2.1 ?_
      refine z_isub dX10_between_94 ((h.2 q2).2.2.2 q4).2.2.2.2.2.1 ?_
      refine n_istore (lo' := [some (2, 29), some (0, v1), some (0, v2), none, some (0, v4), some (0, v5), some (0, v6), some (0, v7), some (0, (μ 24 v7) - (μ 24 v4)), some (0, (μ 25 v7) - (μ 25 v4)), none, none]) dX10_between_95 ⟨Nat.le_of_ble_eq_true rfl, Nat.le_of_ble_eq_true rfl⟩ rfl ?_
      refine z_aload_n dX10_between_97 rfl ?_
      refine n_getp (ji := 6) dX10_between_98 zf_X10_33 k_29 rfl (by decide) rfl p_29_6 ?_
      refine z_iload_n dX10_between_101 rfl ?_
      refine n_vI (as := [(0, v2)]) (rest := []) dX10_between_102 zm_X6_xBehind zs_X10_107 k_23 (by decide) rfl rfl (Nat.le_of_ble_eq_true rfl) (Nat.le_of_ble_eq_true rfl) ((h.2 q2).2.2.2 q4).2.2.2.2.2.2 (fun x7 m5 h6 => ?_)
      refine z_iload dX10_between_105 rfl ?_
      refine n_getsN (j := 1) (oj := 1002) dX10_between_107 rfl zq_894 (by decide) ?_
      refine z_iload dX10_between_110 rfl ?_
      refine n_sald (j := 1) (L := 4) dX10_between_112 rfl (by decide) (by decide) h6.1 ?_
      refine z_imul dX10_between_113 h6.2.1 ?_
      refine z_iadd dX10_between_114 h6.2.2.1 ?_
      refine z_iload dX10_between_115 rfl ?_
      refine n_getsN (j := 2) (oj := 1003) dX10_between_117 rfl zq_895 (by decide) ?_
      refine z_iload dX10_between_120 rfl ?_
      refine n_sald (j := 2) (L := 4) dX10_between_122 rfl (by decide) (by decide) h6.2.2.2.1 ?_
      refine z_imul dX10_between_123 h6.2.2.2.2.1 ?_
      refine z_isub dX10_between_124 h6.2.2.2.2.2.1 ?_
      refine n_istore (lo' := [some (2, 29), some (0, v1), some (0, v2), none, some (0, v4), some (0, v5), some (0, v6), some (0, v7), some (0, (μ 24 v7) - (μ 24 v4)), some (0, (μ 25 v7) - (μ 25 v4)), some (0, (x7 + (((μ 24 v7) - (μ 24 v4)) * (z_S 1 v5))) - (((μ 25 v7) - (μ 25 v4)) * (z_S 2 v5))), none]) dX10_between_125 ⟨Nat.le_of_ble_eq_true rfl, Nat.le_of_ble_eq_true rfl⟩ rfl ?_
      refine z_aload_n dX10_between_127 rfl ?_
      refine n_getp (ji := 6) dX10_between_128 zf_X10_33 k_29 rfl (by decide) rfl p_29_6 ?_
      refine z_iload_n dX10_between_131 rfl ?_
      refine n_vI (as := [(0, v2)]) (rest := []) dX10_between_132 zm_X6_yBehind zs_X10_116 k_23 (by decide) rfl rfl (Nat.le_of_ble_eq_true rfl) (Nat.le_of_ble_eq_true rfl) h6.2.2.2.2.2.2 (fun x10 m8 h9 => ?_)
      refine z_iload dX10_between_135 rfl ?_
      refine n_getsN (j := 2) (oj := 1003) dX10_between_137 rfl zq_895 (by decide) ?_
      refine z_iload dX10_between_140 rfl ?_
      refine n_sald (j := 2) (L := 4) dX10_between_142 rfl (by decide) (by decide) h9.1 ?_
      refine z_imul dX10_between_143 h9.2.1 ?_
      refine z_iadd dX10_between_144 h9.2.2.1 ?_
      refine z_iload dX10_between_145 rfl ?_
      refine n_getsN (j := 1) (oj := 1002) dX10_between_147 rfl zq_894 (by decide) ?_
      refine z_iload dX10_between_150 rfl ?_
      refine n_sald (j := 1) (L := 4) dX10_between_152 rfl (by decide) (by decide) h9.2.2.2.1 ?_
      refine z_imul dX10_between_153 h9.2.2.2.2.1 ?_
      refine z_iadd dX10_between_154 h9.2.2.2.2.2.1 ?_
      refine n_istore (lo' := [some (2, 29), some (0, v1), some (0, v2), none, some (0, v4), some (0, v5), some (0, v6), some (0, v7), some (0, (μ 24 v7) - (μ 24 v4)), some (0, (μ 25 v7) - (μ 25 v4)), some (0, (x7 + (((μ 24 v7) - (μ 24 v4)) * (z_S 1 v5))) - (((μ 25 v7) - (μ 25 v4)) * (z_S 2 v5))), some (0, (x10 + (((μ 24 v7) - (μ 24 v4)) * (z_S 2 v5))) + (((μ 25 v7) - (μ 25 v4)) * (z_S 1 v5)))]) dX10_between_155 ⟨Nat.le_of_ble_eq_true rfl, Nat.le_of_ble_eq_true rfl⟩ rfl ?_
      refine z_iload dX10_between_157 rfl ?_
      refine z_aload_n dX10_between_159 rfl ?_
      refine z_aload_n dX10_between_160 rfl ?_
      refine n_getp (ji := 6) dX10_between_161 zf_X10_33 k_29 rfl (by decide) rfl p_29_6 ?_
      refine n_getf (ji := 5) (t := 0) dX10_between_164 zf_X10_56 k_23 rfl (by decide) rfl ?_
      refine z_iload_n dX10_between_167 rfl ?_
      refine z_iconst dX10_between_168 ⟨by decide, by decide⟩ ?_
      refine z_ixorn dX10_between_169 rfl ?_
      refine z_iandn dX10_between_170 (v1) rfl h9.2.2.2.2.2.2.1.1 h9.2.2.2.2.2.2.1.2 ?_
      refine z_iload dX10_between_171 rfl ?_
      refine z_iload dX10_between_173 rfl ?_
      refine n_vI (as := [(0, ((((m8 23 5 : Int).toNat ^^^ ((m8 23 5 : Int).toNat &&& (v1 : Int).toNat) : Nat)) : Int)), (0, (x7 + (((μ 24 v7) - (μ 24 v4)) * (z_S 1 v5))) - (((μ 25 v7) - (μ 25 v4)) * (z_S 2 v5))), (0, (x10 + (((μ 24 v7) - (μ 24 v4)) * (z_S 2 v5))) + (((μ 25 v7) - (μ 25 v4)) * (z_S 1 v5)))]) (rest := [(0, v6)]) dX10_between_175 zm_X10_howManyAt zs_X10_98 k_29 (by decide) rfl rfl (Nat.le_of_ble_eq_true rfl) (Nat.le_of_ble_eq_true rfl) h9.2.2.2.2.2.2.2 (fun x13 m11 h12 => ?_)
      refine z_iadd dX10_between_178 h12.1 ?_
      refine n_istore (lo' := [some (2, 29), some (0, v1), some (0, v2), none, some (0, v4), some (0, v5), some (0, v6 + x13), some (0, v7), some (0, (μ 24 v7) - (μ 24 v4)), some (0, (μ 25 v7) - (μ 25 v4)), some (0, (x7 + (((μ 24 v7) - (μ 24 v4)) * (z_S 1 v5))) - (((μ 25 v7) - (μ 25 v4)) * (z_S 2 v5))), some (0, (x10 + (((μ 24 v7) - (μ 24 v4)) * (z_S 2 v5))) + (((μ 25 v7) - (μ 25 v4)) * (z_S 1 v5)))]) dX10_between_179 ⟨Nat.le_of_ble_eq_true rfl, Nat.le_of_ble_eq_true rfl⟩ rfl ?_
      refine n_iinc (lo' := [some (2, 29), some (0, v1), some (0, v2), none, some (0, v4), some (0, v5), some (0, v6 + x13), some (0, v7 + 1), some (0, (μ 24 v7) - (μ 24 v4)), some (0, (μ 25 v7) - (μ 25 v4)), some (0, (x7 + (((μ 24 v7) - (μ 24 v4)) * (z_S 1 v5))) - (((μ 25 v7) - (μ 25 v4)) * (z_S 2 v5))), some (0, (x10 + (((μ 24 v7) - (μ 24 v4)) * (z_S 2 v5))) + (((μ 25 v7) - (μ 25 v4)) * (z_S 1 v5)))]) dX10_between_181 rfl (by decide) h12.2.1 rfl ?_
      refine z_goto (tgt := 35) dX10_between_184 (by decide) ?_
      refine z_drop [some (2, 29), some (0, v1), some (0, v2), none, some (0, v4), some (0, v5), some (0, v6 + x13), some (0, v7 + 1), none, none, none, none] ⟨rfl, rfl, rfl, rfl, rfl, rfl, rfl, trivial⟩ ?_
      exact h12.2.2

theorem f_6_0 : z_mu0 6 0 = 0 := by decide +kernel
theorem f_6_2 : z_mu0 6 2 = 0 := by decide +kernel
theorem f_6_8 : z_mu0 6 8 = 0 := by decide +kernel
theorem f_6_11 : z_mu0 6 11 = 0 := by decide +kernel
theorem f_21_0 : z_mu0 21 0 = 0 := by decide +kernel
theorem f_21_1 : z_mu0 21 1 = 0 := by decide +kernel
theorem f_23_5 : z_mu0 23 5 = 0 := by decide +kernel
theorem f_23_6 : z_mu0 23 6 = 0 := by decide +kernel
theorem f_80_0 : z_mu0 80 0 = 0 := by decide +kernel
theorem f_1_1 : z_mu0 1 1 = 0 := by decide +kernel
theorem f_113_21 : z_mu0 113 21 = 0 := by decide +kernel
theorem f_113_22 : z_mu0 113 22 = 0 := by decide +kernel
theorem f_113_23 : z_mu0 113 23 = 0 := by decide +kernel
theorem f_113_6 : z_mu0 113 6 = 0 := by decide +kernel
theorem f_113_8 : z_mu0 113 8 = 0 := by decide +kernel
theorem f_114_0 : z_mu0 114 0 = 0 := by decide +kernel
theorem f_114_22 : z_mu0 114 22 = 0 := by decide +kernel
theorem f_119_0 : z_mu0 119 0 = 0 := by decide +kernel
theorem f_119_1 : z_mu0 119 1 = 0 := by decide +kernel
theorem f_103_0 : z_mu0 103 0 = 0 := by decide +kernel
theorem f_108_0 : z_mu0 108 0 = 0 := by decide +kernel
theorem f_75_0 : z_mu0 75 0 = 0 := by decide +kernel
section LB
variable {a b c : Int} {μ : z_Mem} {d : Nat} {K : Int → z_Mem → Prop} {Kn : z_Mem → Prop}
theorem e_aj0 (h : μ 6 2 = 0) (hk : K 0 μ) : z_ci m_X11_allJoined [(2, 1)] μ (d + 1) K := V_X11_allJoined ⟨fun _ => hk, fun q => absurd q (by omega)⟩
theorem e_tb0 (h : μ 6 2 = 0) (hk : K 0 μ) : z_ci m_X11_traceBorder [(2, 1)] μ (d + 2) K := V_X11_traceBorder (e_aj0 h (zy0 hk))
theorem e_gl0 (h : μ 6 2 = 0) (hk : K (-1) μ) : z_ci m_X11_gluings [(2, 1)] μ (d + 3) K := V_X11_gluings (e_tb0 h (zy0 hk))
theorem e_nf0 (h : μ 6 2 = 0) (hk : K 0 μ) : z_ci m_X11_netFaces [(2, 1)] μ (d + 2) K := V_X11_netFaces (e_aj0 h (zy0' hk))
theorem e_dr0 (hk : Kn (z_st μ 75 0 0)) : z_cn m_X8_draw [(2, 75), (2, 23), (0, 0)] μ (d + 1) Kn :=
  V_X8_draw (V_X8_draw_12 ⟨fun q => absurd q (by first | decide | (unfold z_I; decide)), fun _ => ⟨fun _ => hk, fun q => absurd q (by rw [z_st_eq]; first | decide | (unfold z_I; decide))⟩⟩)
theorem e_ho0 {o : Int} (ho : z_kd o = 6) (h : μ o 5 = 0) (ha : 0 ≤ a ∧ a < 32) (hk : K 0 μ) : z_ci m_X6_holds [(2, o), (0, a)] μ d K :=
  V_X6_holds ho ⟨ha, by omega, fun _ => hk, fun q => absurd (by rw [h]; simp) q⟩
theorem e_ov0 (h : μ 23 5 = 0) (h1 : a = -1 → K 0 μ) (h2 : ¬ a = -1 → K (-2) μ) : z_ci m_X6_overlap [(2, 23), (0, a)] μ (d + 1) K := by
  refine V_X6_overlap (by decide +kernel) ?_
  have key : ∀ n : Nat, ∀ v : Int, 0 ≤ v → v ≤ 30 → n = (30 - v).toNat → z_ri m_X6_overlap 4 [some (2, 23), some (0, a), some (0, 0), some (0, v), none] μ (d + 1) K := by
    intro n
    induction n with
    | zero => intro v h3 h4 h5; exact V_X6_overlap_4 (by decide +kernel) ⟨fun _ => ⟨h2, h1⟩, fun q => by omega⟩
    | succ n ih =>
      intro v h3 h4 h5
      refine V_X6_overlap_4 (by decide +kernel) ⟨fun q => by omega, fun _ => ⟨⟨by omega, by omega⟩, ?_⟩⟩
      refine V_X6_overlap_15 (by decide +kernel) ⟨fun q => ⟨⟨by omega, by omega⟩, ih (v + 1) (by omega) (by omega) (by omega)⟩, fun q => ?_⟩
      exact e_ho0 (by decide +kernel) h (by omega) (zy0' ⟨⟨by omega, by omega⟩, ih (v + 1) (by omega) (by omega) (by omega)⟩)
  exact key 30 0 (by first | decide | (unfold z_I; decide)) (by first | decide | (unfold z_I; decide)) rfl
theorem e_bc0 (hk : K 0 μ) : z_ci m_J13_bitCount_95d88 [(1, 0)] μ d K := by
  have e : ∀ x : Int, x = 0 → K x μ := fun x h => h ▸ hk
  refine V_J13_bitCount_95d88 ?_
  unfold z_J
  repeat' first | exact e _ (by first | decide | (unfold z_I; decide)) | refine ⟨by first | decide | (unfold z_I; decide), ?_⟩
theorem e_hm0 {o : Int} (ho : z_kd o = 3) (h : μ o 0 = 0) (hk : K 0 μ) : z_ci m_X3_howMany [(2, o)] μ (d + 1) K := V_X3_howMany ho (by rw [h]; exact e_bc0 hk)
theorem e_fr0 (h : μ 6 8 = 0) (h0 : a < -1 → K (-1) μ) (h1 : a = -1 → K 0 μ) (h2 : -1 ≤ a → ¬ a = -1 → K (-2) μ) : z_ci m_X11_free [(2, 1), (0, a)] μ (d + 1) K :=
  V_X11_free ⟨fun q => V_X11_free_11 ⟨fun _ => ⟨h2 q, h1⟩, fun q => absurd q (by omega)⟩, h0⟩
theorem g_wh0 (h : μ 113 21 = 0) (hk : K 0 μ) : z_ci m_X12_isWhole [(2, 113)] μ (d + 1) K := V_X12_isWhole ⟨fun _ => hk, fun q => absurd q (by omega)⟩
theorem g_lr0 (h : μ 113 21 = 0) (hk : K 0 μ) : z_ci m_X12_laysRim [(2, 113)] μ (d + 2) K := V_X12_laysRim (g_wh0 h (zy0 hk))
theorem g_lg0 (h : μ 113 21 = 0) (hk : K (-1) μ) : z_ci m_X12_laysGluings [(2, 113), (0, a)] μ (d + 3) K := V_X12_laysGluings (g_lr0 h (zy0 hk))
theorem g_lo0 (h : μ 113 21 = 0) (hk : K (-1) μ) : z_ci m_X12_laysOne [(2, 113), (0, a)] μ (d + 4) K := V_X12_laysOne ⟨fun _ => g_lg0 h ⟨fun q => absurd q (by first | decide | (unfold z_I; decide)), fun _ => hk⟩, fun _ => hk⟩
theorem g_pl0 (h : μ 113 21 = 0) (hk : K 0 μ) : z_ci m_X12_places [(2, 113)] μ (d + 1) K := V_X12_places ⟨fun q => absurd h q, fun _ => hk⟩
theorem g_hi0 (h : μ 113 22 = 0) (hk : K 0 μ) : z_ci m_X12_hinges [(2, 113)] μ d K := V_X12_hinges (V_X12_hinges_4 ⟨fun _ => hk, fun q => absurd q (by omega)⟩)
theorem g_ou0 (h : μ 113 21 = 0) (hk : K 0 μ) : z_ci m_X12_laysOutline [(2, 113)] μ (d + 2) K := V_X12_laysOutline (g_wh0 h (zy0' hk))
end LB
theorem p1_op_0 : op_0 (fun μ => μ = z_mu0) (fun _ => True) := by
  rintro _ a1 a2 a3 a4 a5 rfl hok h1 h2 h3 h4 h5
  refine e_feed (by rw [f_1_1]; first | decide | (unfold z_I; decide)) (fun q => absurd q (by rw [f_1_1]; first | decide | (unfold z_I; decide))) (fun m1 m2 m3 m4 m5 g1 g2 g3 g4 g5 _ => ?_)
  have k8 : m5 113 8 = 0 := by
    rw [g5.2.1 _ _ (by first | decide | (unfold z_I; decide)) (by first | decide | (unfold z_I; decide)), g4.2.1 _ _ (by first | decide | (unfold z_I; decide)) (by first | decide | (unfold z_I; decide)), g3.2.1 _ _ (by first | decide | (unfold z_I; decide)) (by first | decide | (unfold z_I; decide)), g2.2.1 _ _ (by first | decide | (unfold z_I; decide)) (by first | decide | (unfold z_I; decide)), g1.2.1 _ _ (by first | decide | (unfold z_I; decide)) (by first | decide | (unfold z_I; decide))]
    exact f_113_8
  refine e12_feed (by omega) (fun q => by omega) (fun n1 n2 n3 n4 n5 q1 q2 q3 q4 q5 _ => ⟨?_, trivial⟩)
  rw [q5.1, q4.1, q3.1, q2.1, q1.1, g5.1, g4.1, g3.1, g2.1, g1.1, k8, f_1_1]
theorem p1_op_1 : op_1 (fun μ => μ = z_mu0) (fun _ => True) := by
  rintro _ a1 rfl hok h1
  refine V_X11_end ⟨fun q => V_X12_end ⟨fun _ => ⟨rfl, trivial⟩, fun r => absurd q (by omega)⟩, fun q => ⟨fun r => ?_, fun r => V_X12_end ⟨fun s => absurd s (by omega), fun _ => ⟨fun s => ?_, fun _ => ⟨rfl, trivial⟩⟩⟩⟩⟩
  · have e : z_st z_mu0 1 1 a1 113 8 = 0 := by rw [z_st_ne (by first | decide | (unfold z_I; decide))]; exact f_113_8
    rw [f_1_1] at r
    exact V_X12_end ⟨fun s => absurd s (by omega), fun _ => ⟨fun _ => ⟨rfl, trivial⟩, fun s => absurd s (by omega)⟩⟩
  · rw [f_1_1] at r
    rw [f_113_8] at s
    omega
theorem p1_op_3 : op_3 (fun μ => μ = z_mu0) (fun _ => True) := by
  rintro _ a1 rfl hok h1
  refine V_X11_hinge (e_isEdge (fun _ => ?_) (fun h => absurd h (by rw [f_6_8]; omega)))
  have step : z_ci m_X12_hinge [(2, 113), (0, a1)] z_mu0 200 (fun y μ2 => y = -1 ∧ True) := V_X12_hinge (e12_isEdge (by rw [f_113_22]; first | decide | (unfold z_I; decide)) (fun _ => (by first | exact zy0 ⟨rfl, trivial⟩ | exact zy0' ⟨rfl, trivial⟩)) (fun h => absurd h (by rw [f_113_22]; omega)))
  first | exact zy0 step | exact zy0' step
theorem p1_op_4 : op_4 (fun μ => μ = z_mu0) (fun _ => True) := by
  rintro _ a1 rfl hok h1
  refine V_X11_cut (e_isEdge (fun _ => ?_) (fun h => absurd h (by rw [f_6_8]; omega)))
  have step : z_ci m_X12_cut [(2, 113), (0, a1)] z_mu0 200 (fun y μ2 => y = -1 ∧ True) := V_X12_cut (e12_isEdge (by rw [f_113_22]; first | decide | (unfold z_I; decide)) (fun _ => (by first | exact zy0 ⟨rfl, trivial⟩ | exact zy0' ⟨rfl, trivial⟩)) (fun h => absurd h (by rw [f_113_22]; omega)))
  first | exact zy0 step | exact zy0' step
theorem p1_op_5 : op_5 (fun μ => μ = z_mu0) (fun _ => True) := by
  rintro _ a1 rfl hok h1
  refine V_X11_root (e_isFace (fun _ => ?_) (fun h => absurd h (by rw [f_6_2]; omega)))
  have step : z_ci m_X12_root [(2, 113), (0, a1)] z_mu0 200 (fun y μ2 => y = -1 ∧ True) := V_X12_root (e12_isFace (by rw [f_113_21]; first | decide | (unfold z_I; decide)) (fun _ => (by first | exact zy0 ⟨rfl, trivial⟩ | exact zy0' ⟨rfl, trivial⟩)) (fun h => absurd h (by rw [f_113_21]; omega)))
  first | exact zy0 step | exact zy0' step
theorem p1_op_6 : op_6 (fun μ => μ = z_mu0) (fun _ => True) := by
  rintro _ a1 a2 rfl hok h1 h2
  refine V_X11_weigh (e_isEdge (fun _ => ?_) (fun h => absurd h (by rw [f_6_8]; omega)))
  have step : z_ci m_X12_weigh [(2, 113), (0, a1), (0, a2)] z_mu0 200 (fun y μ2 => y = -1 ∧ True) := V_X12_weigh (e12_isEdge (by rw [f_113_22]; first | decide | (unfold z_I; decide)) (fun _ => (by first | exact zy0 ⟨rfl, trivial⟩ | exact zy0' ⟨rfl, trivial⟩)) (fun h => absurd h (by rw [f_113_22]; omega)))
  first | exact zy0 step | exact zy0' step
theorem p1_op_9 : op_9 (fun μ => μ = z_mu0) (fun _ => True) := by
  rintro _ a1 a2 rfl hok h1 h2
  refine V_X11_trade (e_isEdge (fun _ => ?_) (fun h => absurd h (by rw [f_6_8]; omega)))
  have step : z_ci m_X12_trade [(2, 113), (0, a1), (0, a2)] z_mu0 200 (fun y μ2 => y = -1 ∧ True) := V_X12_trade (e12_isEdge (by rw [f_113_22]; first | decide | (unfold z_I; decide)) (fun _ => (by first | exact zy0 ⟨rfl, trivial⟩ | exact zy0' ⟨rfl, trivial⟩)) (fun h => absurd h (by rw [f_113_22]; omega)))
  first | exact zy0 step | exact zy0' step
theorem p1_op_15 : op_15 (fun μ => μ = z_mu0) (fun _ => True) := by
  rintro _ a1 a2 rfl hok h1 h2
  refine V_X11_face (e_isFace (fun _ => ?_) (fun h => absurd h (by rw [f_6_2]; omega)))
  have step : z_ci m_X12_face [(2, 113), (0, a1), (0, a2)] z_mu0 200 (fun y μ2 => y = -1 ∧ True) := V_X12_face (e12_isFace (by rw [f_113_21]; first | decide | (unfold z_I; decide)) (fun _ => (by first | exact zy0 ⟨rfl, trivial⟩ | exact zy0' ⟨rfl, trivial⟩)) (fun h => absurd h (by rw [f_113_21]; omega)))
  first | exact zy0 step | exact zy0' step
theorem p1_op_16 : op_16 (fun μ => μ = z_mu0) (fun _ => True) := by
  rintro _ a1 a2 a3 rfl hok h1 h2 h3
  refine V_X11_side (e_isFace (fun _ => ?_) (fun h => absurd h (by rw [f_6_2]; omega)))
  have step : z_ci m_X12_side [(2, 113), (0, a1), (0, a2), (0, a3)] z_mu0 200 (fun y μ2 => y = -1 ∧ True) := V_X12_side (e12_isFace (by rw [f_113_21]; first | decide | (unfold z_I; decide)) (fun _ => (by first | exact zy0 ⟨rfl, trivial⟩ | exact zy0' ⟨rfl, trivial⟩)) (fun h => absurd h (by rw [f_113_21]; omega)))
  first | exact zy0 step | exact zy0' step
theorem p1_op_17 : op_17 (fun μ => μ = z_mu0) (fun _ => True) := by
  rintro _ a1 a2 rfl hok h1 h2
  refine V_X11_edge (e_isEdge (fun _ => ?_) (fun h => absurd h (by rw [f_6_8]; omega)))
  have step : z_ci m_X12_edge [(2, 113), (0, a1), (0, a2)] z_mu0 200 (fun y μ2 => y = -1 ∧ True) := V_X12_edge (e12_isEdge (by rw [f_113_22]; first | decide | (unfold z_I; decide)) (fun _ => (by first | exact zy0 ⟨rfl, trivial⟩ | exact zy0' ⟨rfl, trivial⟩)) (fun h => absurd h (by rw [f_113_22]; omega)))
  first | exact zy0 step | exact zy0' step
theorem p1_op_18 : op_18 (fun μ => μ = z_mu0) (fun _ => True) := by
  rintro _ a1 a2 a3 rfl hok h1 h2 h3
  refine V_X11_corner (e_isFace (fun _ => ?_) (fun h => absurd h (by rw [f_6_2]; omega)))
  have step : z_ci m_X12_corner [(2, 113), (0, a1), (0, a2), (0, a3)] z_mu0 200 (fun y μ2 => y = -1 ∧ True) := V_X12_corner (e12_isFace (by rw [f_113_21]; first | decide | (unfold z_I; decide)) (fun _ => (by first | exact zy0 ⟨rfl, trivial⟩ | exact zy0' ⟨rfl, trivial⟩)) (fun h => absurd h (by rw [f_113_21]; omega)))
  first | exact zy0 step | exact zy0' step
theorem p1_op_20 : op_20 (fun μ => μ = z_mu0) (fun _ => True) := by
  rintro _ a1 a2 rfl hok h1 h2
  refine V_X11_place (e_isFace (fun _ => ?_) (fun h => absurd h (by rw [f_6_2]; omega)))
  have step : z_ci m_X12_place [(2, 113), (0, a1), (0, a2)] z_mu0 200 (fun y μ2 => y = -1000 ∧ True) := V_X12_place (e12_isFace (by rw [f_113_21]; first | decide | (unfold z_I; decide)) (fun _ => (by first | exact zy0 ⟨rfl, trivial⟩ | exact zy0' ⟨rfl, trivial⟩)) (fun h => absurd h (by rw [f_113_21]; omega)))
  first | exact zy0 step | exact zy0' step
theorem p1_op_23 : op_23 (fun μ => μ = z_mu0) (fun _ => True) := by
  rintro _ a1 rfl hok h1
  refine V_X11_part (e_isEdge (fun _ => ?_) (fun h => absurd h (by rw [f_6_8]; omega)))
  have step : z_ci m_X12_part [(2, 113), (0, a1)] z_mu0 200 (fun y μ2 => y = -1 ∧ True) := V_X12_part (e12_isEdge (by rw [f_113_22]; first | decide | (unfold z_I; decide)) (fun _ => (by first | exact zy0 ⟨rfl, trivial⟩ | exact zy0' ⟨rfl, trivial⟩)) (fun h => absurd h (by rw [f_113_22]; omega)))
  first | exact zy0 step | exact zy0' step
theorem p1_op_24 : op_24 (fun μ => μ = z_mu0) (fun _ => True) := by
  rintro _ a1 a2 a3 rfl hok h1 h2 h3
  refine V_X11_way (e_isFace (fun _ => ?_) (fun h => absurd h (by rw [f_6_2]; omega)))
  have step : z_ci m_X12_way [(2, 113), (0, a1), (0, a2), (0, a3)] z_mu0 200 (fun y μ2 => y = -1 ∧ True) := V_X12_way (e12_isFace (by rw [f_113_21]; first | decide | (unfold z_I; decide)) (fun _ => (by first | exact zy0 ⟨rfl, trivial⟩ | exact zy0' ⟨rfl, trivial⟩)) (fun h => absurd h (by rw [f_113_21]; omega)))
  first | exact zy0 step | exact zy0' step
theorem p1_op_7 : op_7 (fun μ => μ = z_mu0) (fun _ => True) := by
  rintro _  rfl hok 
  exact V_X11_span ⟨fun q => absurd f_6_2 q, fun _ => V_X12_span ⟨fun q => absurd f_113_21 q, fun _ => ⟨rfl, trivial⟩⟩⟩
theorem p1_op_8 : op_8 (fun μ => μ = z_mu0) (fun _ => True) := by
  rintro _ a1 rfl hok h1
  have step : z_ci m_X12_tree [(2, 113), (0, a1)] z_mu0 200 (fun y μ2 => y = -1 ∧ True) := V_X12_tree ⟨fun _ => ⟨rfl, trivial⟩, fun q => absurd f_113_21 q⟩
  exact V_X11_tree ⟨fun _ => step, fun _ => ⟨fun _ => step, fun _ => ⟨fun q => absurd f_6_2 q, fun _ => step⟩⟩⟩
theorem p1_op_10 : op_10 (fun μ => μ = z_mu0) (fun _ => True) := by
  rintro _  rfl hok 
  exact V_X11_mend (e_aj0 f_6_2 (zy0 (V_X12_mend (g_wh0 f_113_21 (zy0 ⟨rfl, trivial⟩)))))
theorem p1_op_11 : op_11 (fun μ => μ = z_mu0) (fun _ => True) := by
  rintro _  rfl hok 
  exact V_X11_seek ⟨fun q => absurd f_6_2 q, fun _ => V_X12_seek ⟨fun q => absurd f_113_21 q, fun _ => ⟨rfl, trivial⟩⟩⟩
theorem p1_op_12 : op_12 (fun μ => μ = z_mu0) (fun _ => True) := by
  rintro _  rfl hok 
  exact V_X11_undo (V_X2_bringBack ⟨fun q => absurd f_80_0 q, fun _ => zy0 (V_X12_undo ⟨fun q => absurd f_113_6 q, fun _ => ⟨rfl, trivial⟩⟩)⟩)
theorem p1_op_14 : op_14 (fun μ => μ = z_mu0) (fun _ => True) := by
  rintro _ a1 rfl hok h1
  refine V_X11_back (e_isShelf (fun q => zy0 (V_X12_back (e_in (fun _ => zy0 ⟨rfl, trivial⟩) (fun r => absurd r (by omega))))) (fun q => zy1 ⟨q, fun r => ?_, fun _ => ?_⟩))
  · refine absurd ?_ r
    rcases (by omega : a1 = 0 ∨ a1 = 1) with rfl | rfl
    · exact f_103_0
    · exact f_108_0
  · refine V_X12_back (e_in (fun r => absurd q (by omega)) (fun _ => zy1 ⟨q, fun r => ?_, fun _ => ⟨rfl, trivial⟩⟩))
    refine absurd ?_ r
    rcases (by omega : a1 = 0 ∨ a1 = 1) with rfl | rfl
    · exact f_119_0
    · exact f_119_1
theorem p1_op_19 : op_19 (fun μ => μ = z_mu0) (fun _ => True) := by
  rintro _ a1 a2 rfl hok h1 h2
  exact V_X11_vertex (e_isVertex (fun _ => zy0 (V_X12_vertex ⟨by rw [f_113_23]; first | decide | (unfold z_I; decide), e_in (fun _ => zy0' ⟨rfl, trivial⟩) (fun h => absurd h (by rw [f_113_23]; omega))⟩)) (fun h => absurd h (by rw [f_6_11]; omega)))
theorem p1_op_21 : op_21 (fun μ => μ = z_mu0) (fun _ => True) := by
  rintro _ a1 rfl hok h1
  refine V_X11_over ⟨fun q => e_ov0 f_23_5 (fun r => ?_) (fun r => ?_), fun q => V_X12_over ⟨fun r => absurd q (by omega), fun _ => ⟨rfl, trivial⟩⟩⟩
  · exact V_X12_over ⟨fun _ => g_pl0 f_113_21 (V_X12_over_16 ⟨fun _ => ⟨fun s => absurd r s, fun _ => ⟨rfl, trivial⟩⟩, fun s => absurd s (by rw [f_113_21]; first | decide | (unfold z_I; decide))⟩), fun s => absurd s (by omega)⟩
  · exact V_X12_over ⟨fun _ => g_pl0 f_113_21 (V_X12_over_16 ⟨fun _ => ⟨fun _ => ⟨rfl, trivial⟩, fun s => absurd s r⟩, fun s => absurd s (by rw [f_113_21]; first | decide | (unfold z_I; decide))⟩), fun s => absurd s (by omega)⟩
theorem p1_op_22 : op_22 (fun μ => μ = z_mu0) (fun _ => True) := by
  rintro _ a1 rfl hok h1
  have step : z_ci m_X12_box [(2, 113), (0, a1)] z_mu0 200 (fun y μ2 => y = -1000 ∧ True) := V_X12_box ⟨fun _ => ⟨rfl, trivial⟩, fun q => absurd f_113_21 q⟩
  exact V_X11_box ⟨fun _ => step, fun _ => ⟨fun _ => step, fun _ => ⟨fun q => absurd f_23_6 q, fun _ => step⟩⟩⟩
theorem p1_op_25 : op_25 (fun μ => μ = z_mu0) (fun _ => True) := by
  rintro _ a1 rfl hok h1
  refine e_fr0 f_6_8 (fun q => V_X12_free ⟨fun r => absurd q (by omega), fun _ => ⟨rfl, trivial⟩⟩) (fun r => ?_) (fun q r => ?_)
  · exact V_X12_free ⟨fun _ => g_pl0 f_113_21 (V_X12_free_16 ⟨fun _ => ⟨fun s => absurd r s, fun _ => ⟨rfl, trivial⟩⟩, fun s => absurd s (by rw [f_113_22]; first | decide | (unfold z_I; decide))⟩), fun s => absurd s (by omega)⟩
  · exact V_X12_free ⟨fun _ => g_pl0 f_113_21 (V_X12_free_16 ⟨fun _ => ⟨fun _ => ⟨rfl, trivial⟩, fun s => absurd s r⟩, fun s => absurd s (by rw [f_113_22]; first | decide | (unfold z_I; decide))⟩), fun s => absurd s (by omega)⟩
theorem p1_op_26 : op_26 (fun μ => μ = z_mu0) (fun _ => True) := by
  rintro _ a1 a2 rfl hok h1 h2
  exact V_X11_rim (e_tb0 f_6_2 (zy0' (V_X12_rim (g_lr0 f_113_21 (zy0 ⟨rfl, trivial⟩)))))
theorem p1_op_27 : op_27 (fun μ => μ = z_mu0) (fun _ => True) := by
  rintro _  rfl hok 
  exact e_gl0 f_6_2 (V_X12_gluings (g_lg0 f_113_21 ⟨rfl, trivial⟩))
theorem p1_op_28 : op_28 (fun μ => μ = z_mu0) (fun _ => True) := by
  rintro _ a1 a2 rfl hok h1 h2
  exact V_X11_glued (e_tb0 f_6_2 (zy0' (V_X12_glued (g_lr0 f_113_21 (zy0' ⟨rfl, trivial⟩)))))
theorem p1_op_29 : op_29 (fun μ => μ = z_mu0) (fun _ => True) := by
  rintro _ a1 a2 rfl hok h1 h2
  exact V_X11_lacks (e_tb0 f_6_2 (zy0' (V_X12_lacks (e_in (fun _ => zy0 ⟨rfl, trivial⟩) (fun _ => zy1 (g_lo0 f_113_21 ⟨fun q => absurd q (by first | decide | (unfold z_I; decide)), fun _ => ⟨rfl, trivial⟩⟩))))))
theorem p1_op_30 : op_30 (fun μ => μ = z_mu0) (fun _ => True) := by
  rintro _  rfl hok 
  exact V_X11_itself (e_gl0 f_6_2 ⟨fun q => absurd q (by first | decide | (unfold z_I; decide)), fun _ => V_X12_itself (g_lg0 f_113_21 ⟨fun q => absurd q (by first | decide | (unfold z_I; decide)), fun _ => ⟨rfl, trivial⟩⟩)⟩)
theorem p1_op_31 : op_31 (fun μ => μ = z_mu0) (fun _ => True) := by
  rintro _  rfl hok 
  refine V_X11_outline (e_nf0 f_6_2 (e_dr0 (V_X8_number ⟨fun q => absurd z_st_eq q, fun _ => ?_⟩)))
  exact V_X12_outline (g_ou0 (by rw [z_st_ne (by first | decide | (unfold z_I; decide))]; exact f_113_21) (zy0 ⟨rfl, trivial⟩))
theorem p1_op_32 : op_32 (fun μ => μ = z_mu0) (fun _ => True) := by
  rintro _ a1 rfl hok h1
  refine V_X11_alike (e_isShelf (fun q => zy0' (V_X12_alike (e_in (fun _ => zy0' ⟨rfl, trivial⟩) (fun r => absurd r (by omega))))) (fun q => zy1' ⟨q, fun r => ?_, fun _ => ?_⟩))
  · refine absurd ?_ r
    rcases (by omega : a1 = 0 ∨ a1 = 1) with rfl | rfl
    · exact f_103_0
    · exact f_108_0
  · refine V_X12_alike (e_in (fun r => absurd q (by omega)) (fun _ => zy1' ⟨q, fun r => ?_, fun _ => ⟨rfl, trivial⟩⟩))
    refine absurd ?_ r
    rcases (by omega : a1 = 0 ∨ a1 = 1) with rfl | rfl
    · exact f_119_0
    · exact f_119_1
theorem p1_op_33 : op_33 (fun μ => μ = z_mu0) (fun _ => True) := by
  rintro _ a1 rfl hok h1
  have step : z_ci m_X12_best [(2, 113), (0, a1)] z_mu0 200 (fun y μ2 => y = -1 ∧ True) := V_X12_best (g_wh0 f_113_21 (zy0' ⟨rfl, trivial⟩))
  exact V_X11_best ⟨fun _ => step, fun _ => ⟨fun _ => step, fun _ => e_aj0 f_6_2 (zy0 step)⟩⟩
theorem g_ct0 {a x : Int} (h0 : 0 ≤ a ∧ a ≤ 10 → x = 0) (h1 : a < 0 ∨ 10 < a → x = -1) : z_ci m_X12_count [(2, 113), (0, a)] z_mu0 200 (fun y μ2 => y = x ∧ True) := by
  refine V_X12_count ⟨fun q => ⟨?_, trivial⟩, fun q => ⟨?_, trivial⟩, fun q => ⟨?_, trivial⟩, fun q => ⟨?_, trivial⟩, fun q => g_hi0 f_113_22 ⟨?_, trivial⟩, fun q => ⟨?_, trivial⟩, fun q => g_pl0 f_113_21 ⟨?_, trivial⟩, fun q => ⟨?_, trivial⟩, fun q => ⟨?_, trivial⟩, fun q => e_truth (fun _ => e_truth (fun _ => ⟨by first | decide | (unfold z_I; decide), ⟨by first | decide | (unfold z_I; decide), by first | decide | (unfold z_I; decide)⟩, ?_, trivial⟩) (fun r => absurd f_119_1 r)) (fun r => absurd f_119_0 r), fun q => V_X12_unfree (g_pl0 f_113_21 (V_X12_unfree_9 ⟨fun _ => ⟨?_, trivial⟩, fun r => absurd r (by rw [f_113_22]; first | decide | (unfold z_I; decide))⟩)), fun q => ⟨?_, trivial⟩⟩
  · rw [h0 (by omega)]; exact f_114_0
  · rw [h0 (by omega)]; exact f_113_21
  · rw [h0 (by omega)]; exact f_113_22
  · rw [h0 (by omega)]; exact f_113_23
  · rw [h0 (by omega)]
  · rw [h0 (by omega)]; exact f_114_22
  · rw [h0 (by omega)]
  · rw [h0 (by omega)]; exact f_113_6
  · rw [h0 (by omega)]; exact f_113_8
  · rw [h0 (by omega)]; first | decide | (unfold z_I; decide)
  · rw [h0 (by omega)]
  · rw [h1 q]
theorem p1_op_34 : op_34 (fun μ => μ = z_mu0) (fun _ => True) := by
  rintro _ a1 rfl hok h1
  have k0 : ∀ x : Int, 0 ≤ a1 ∧ a1 ≤ 10 → x = 0 → z_ci m_X12_count [(2, 113), (0, a1)] z_mu0 200 (fun y μ2 => y = x ∧ True) := fun x q e => g_ct0 (fun _ => e) (fun r => by omega)
  refine V_X11_count ⟨fun q => k0 _ (by omega) f_6_0, fun q => k0 _ (by omega) f_6_2, fun q => k0 _ (by omega) f_6_8, fun q => k0 _ (by omega) f_6_11, fun q => e_hm0 (by decide +kernel) f_21_0 (k0 _ (by omega) rfl), fun q => k0 _ (by omega) f_21_1, fun q => k0 _ (by omega) f_23_6, fun q => k0 _ (by omega) f_80_0, fun q => k0 _ (by omega) f_1_1, fun q => V_X11_keptBits (V_X11_keptBits_4 ⟨fun r => absurd r (by first | decide | (unfold z_I; decide)), fun _ => ⟨by first | decide | (unfold z_I; decide), fun _ => ⟨by first | decide | (unfold z_I; decide), V_X11_keptBits_4 ⟨fun r => absurd r (by first | decide | (unfold z_I; decide)), fun _ => ⟨by first | decide | (unfold z_I; decide), fun _ => ⟨by first | decide | (unfold z_I; decide), V_X11_keptBits_4 ⟨fun _ => k0 _ (by omega) rfl, fun r => absurd r (by first | decide | (unfold z_I; decide))⟩⟩, fun r => absurd ?_ r⟩⟩⟩, fun r => absurd ?_ r⟩⟩), fun q => e_hm0 (by decide +kernel) f_21_0 ⟨by rw [f_6_8]; first | decide | (unfold z_I; decide), e_fr0 f_6_8 (fun r => by omega) (fun _ => ⟨by rw [f_6_8]; first | decide | (unfold z_I; decide), k0 _ (by omega) (by rw [f_6_8]; first | decide | (unfold z_I; decide))⟩) (fun _ r => absurd rfl r)⟩, fun q => g_ct0 (fun r => by omega) (fun _ => rfl)⟩
  · rw [show (103 + 5 * (0 + 1) : Int) = 108 by first | decide | (unfold z_I; decide)]; exact f_108_0
  · rw [show (103 + 5 * 0 : Int) = 103 by first | decide | (unfold z_I; decide)]; exact f_103_0
theorem p1_keep (a : Int) (o : Int) (ha : o = 103 + 5 * a) (hq : 0 ≤ a ∧ a < 2) (h7 : z_kd o = 7) (h3 : z_kd (o + 2) = 3) (ho : 103 ≤ o) (hk : o ≤ 108) : z_ci m_X11_keep [(2, 1), (0, a)] z_mu0 200 (fun x μ1 => z_ci m_X12_keep [(2, 113), (0, a)] μ1 200 (fun y μ2 => y = x ∧ True)) := by
  refine V_X11_keep (e_isShelf (fun r => absurd hq r) (fun _ => zy1 (e_nf0 f_6_2 (e_dr0 ⟨hq, ?_⟩))))
  rw [← ha]
  refine V_X7_store h7 (V_X3_copy h3 (by decide +kernel) ?_)
  have n1 : ∀ (m : z_Mem) (q i j v x : Int), 103 ≤ q → (x = 21 ∨ x = 113 ∨ x = 114) → q ≤ 112 → z_st m q i v x j = m x j := fun m q i j v x h1 h2 h3 => z_st_ne (by omega)
  have n2 : ∀ (m : z_Mem) (p s q t n x i : Int), 103 ≤ q → (x = 21 ∨ x = 113 ∨ x = 114) → q ≤ 112 → z_cpy m p s q t n x i = m x i := fun m p s q t n x i h1 h2 h3 => z_cpy_ne (by omega)
  refine e_hm0 (by decide +kernel) ?_ ?_
  · rw [n2 _ _ _ _ _ _ _ _ (by omega) (by omega) (by omega), n1 _ _ _ _ _ _ (by omega) (by omega) (by omega), n2 _ _ _ _ _ _ _ _ (by omega) (by omega) (by omega), n1 _ _ _ _ _ _ (by omega) (by omega) (by omega), n1 _ _ _ _ _ _ (by omega) (by omega) (by omega), n2 _ _ _ _ _ _ _ _ (by omega) (by omega) (by omega), n1 _ _ _ _ _ _ (by omega) (by omega) (by omega), n1 _ _ _ _ _ _ (by omega) (by omega) (by omega), z_st_ne (by first | decide | (unfold z_I; decide))]
    exact f_21_0
  · refine V_X12_keep (e_in (fun r => absurd hq (by omega)) (fun _ => zy1 ⟨⟨by omega, by omega⟩, ?_⟩))
    refine e_moves k_114 k_118 (by first | decide | (unfold z_I; decide)) (by first | decide | (unfold z_I; decide)) (by omega) (by first | decide | (unfold z_I; decide)) ⟨hq, ?_⟩
    refine g_hi0 ?_ ⟨rfl, trivial⟩
    rw [z_st_ne (by first | decide | (unfold z_I; decide)), z_cpy_ne (by first | decide | (unfold z_I; decide)), n2 _ _ _ _ _ _ _ _ (by omega) (by omega) (by omega), n1 _ _ _ _ _ _ (by omega) (by omega) (by omega), n2 _ _ _ _ _ _ _ _ (by omega) (by omega) (by omega), n1 _ _ _ _ _ _ (by omega) (by omega) (by omega), n1 _ _ _ _ _ _ (by omega) (by omega) (by omega), n2 _ _ _ _ _ _ _ _ (by omega) (by omega) (by omega), n1 _ _ _ _ _ _ (by omega) (by omega) (by omega), n1 _ _ _ _ _ _ (by omega) (by omega) (by omega), z_st_ne (by first | decide | (unfold z_I; decide))]
    exact f_113_22
theorem p1_op_13 : op_13 (fun μ => μ = z_mu0) (fun _ => True) := by
  rintro _ a1 rfl hok h1
  by_cases q : 0 ≤ a1 ∧ a1 < 2
  · rcases (by omega : a1 = 0 ∨ a1 = 1) with rfl | rfl
    · exact p1_keep 0 103 (by first | decide | (unfold z_I; decide)) q (by decide +kernel) (by decide +kernel) (by first | decide | (unfold z_I; decide)) (by first | decide | (unfold z_I; decide))
    · exact p1_keep 1 108 (by first | decide | (unfold z_I; decide)) q (by decide +kernel) (by decide +kernel) (by first | decide | (unfold z_I; decide)) (by first | decide | (unfold z_I; decide))
  · exact V_X11_keep (e_isShelf (fun _ => zy0 (V_X12_keep (e_in (fun _ => zy0 ⟨rfl, trivial⟩) (fun r => absurd r (by omega))))) (fun r => absurd r q))
theorem p1_op_2 : op_2 (fun μ => μ = z_mu0) (fun _ => True) := by
  rintro _  rfl hok 
  have s1 : ∀ (m : z_Mem) (i j v : Int), j ≠ i → z_st m 3 i v 3 j = m 3 j := fun m i j v h => z_st_ni h
  have e33 : (z_st (z_st (z_st (z_st z_mu0 3 2 2) 3 3 (min (z_mu0 1 1) 200)) 3 4 0) 3 1 0) 3 3 = 0 := by
    rw [s1 _ _ _ _ (by first | decide | (unfold z_I; decide)), s1 _ _ _ _ (by first | decide | (unfold z_I; decide)), z_st_eq, f_1_1]; first | decide | (unfold z_I; decide)
  have e34 : (z_st (z_st (z_st (z_st z_mu0 3 2 2) 3 3 (min (z_mu0 1 1) 200)) 3 4 0) 3 1 0) 3 4 = 0 := by
    rw [s1 _ _ _ _ (by first | decide | (unfold z_I; decide)), z_st_eq]
  refine V_X11_solid (V_X4_read (V_X4_read_27 ⟨fun q => absurd q (by first | decide | (unfold z_I; decide)), fun _ => ?_⟩))
  refine V_X4_readCube (V_X4_toNext ⟨fun _ => V_X4_passWord (V_X4_passWord_5 ⟨fun _ => ⟨by rw [e34]; first | decide | (unfold z_I; decide), fun _ => ?_, fun q => absurd q (by rw [e34]; first | decide | (unfold z_I; decide))⟩, fun q => absurd q (by rw [e33, e34]; first | decide | (unfold z_I; decide))⟩), fun q => absurd q (by rw [e33, e34]; first | decide | (unfold z_I; decide))⟩)
  refine zy0 ⟨by rw [e34]; first | decide | (unfold z_I; decide), by rw [e34]; first | decide | (unfold z_I; decide), ?_⟩
  rw [e34]
  refine ⟨fun q => absurd q (by first | decide | (unfold z_I; decide)), fun _ => ⟨fun q => absurd q (by first | decide | (unfold z_I; decide)), fun _ => ⟨by first | decide | (unfold z_I; decide), ?_⟩⟩⟩
  refine V_X12_solid (e_hears ?_)
  generalize hm : z_hd _ 143 = m
  have b0 : ∀ i, i ≠ 9 → i ≠ 10 → m 113 i = z_mu0 113 i := fun i h1 h2 => by
    rw [← hm, z_hd_ne (by first | decide | (unfold z_I; decide)), z_st_ni h2, z_st_ni h1, z_st_ne (by first | decide | (unfold z_I; decide)), z_st_ne (by first | decide | (unfold z_I; decide)), z_st_ne (by first | decide | (unfold z_I; decide)), z_st_ne (by first | decide | (unfold z_I; decide)), z_st_ne (by first | decide | (unfold z_I; decide))]
  have b8 : m 113 8 = 0 := by rw [b0 8 (by first | decide | (unfold z_I; decide)) (by first | decide | (unfold z_I; decide))]; exact f_113_8
  have b9 : m 113 9 = 0 := by rw [← hm, z_hd_ne (by first | decide | (unfold z_I; decide)), z_st_ni (by first | decide | (unfold z_I; decide)), z_st_eq]
  have b10 : m 113 10 = -1 := by rw [← hm, z_hd_ne (by first | decide | (unfold z_I; decide)), z_st_eq]
  have c0 : m 115 0 = 0 := by rw [← hm]; rfl
  clear hm
  have nx : ∀ (d : Nat) (K : Int → z_Mem → Prop), K (-1) m → z_ci m_X12_next [(2, 113)] m (d + 1) K := fun d K hK => V_X12_next (V_X12_sign ⟨fun _ => ⟨fun _ => V_X12_sign ⟨fun _ => hK, fun q => absurd q (by rw [b8, b9]; first | decide | (unfold z_I; decide))⟩, fun q => absurd q (by first | decide | (unfold z_I; decide))⟩, fun q => absurd q (by rw [b8, b9]; first | decide | (unfold z_I; decide))⟩)
  refine V_X12_readsPart (nx _ _ (V_X12_takesCube (nx _ _ (V_X12_takesCube_7 ⟨by rw [b9]; first | decide | (unfold z_I; decide), fun _ => ⟨fun _ => ⟨by rw [b9]; first | decide | (unfold z_I; decide), zy0 ?_⟩, fun q => absurd q (by first | decide | (unfold z_I; decide))⟩, fun q => absurd q (by rw [b8, b9]; first | decide | (unfold z_I; decide))⟩))))
  refine V_X12_fails (e_isRight (fun _ => zy1' ⟨by rw [b9]; first | decide | (unfold z_I; decide), by rw [b9]; first | decide | (unfold z_I; decide), ?_⟩) (fun q => absurd (by rw [z_st_ni (by first | decide | (unfold z_I; decide))]; exact b10) q))
  generalize hm : z_st (z_st m 113 9 _) 113 10 _ = m'
  have g10 : m' 113 10 = 1 := by rw [← hm, z_st_eq, b9]; first | decide | (unfold z_I; decide)
  have g0 : m' 115 0 = 0 := by rw [← hm, z_st_ne (by first | decide | (unfold z_I; decide)), z_st_ne (by first | decide | (unfold z_I; decide))]; exact c0
  clear hm
  have ir : ∀ (m : z_Mem) (d : Nat) (K : Int → z_Mem → Prop), m 113 10 = 1 → K 0 m → z_ci m_X12_isRight [(2, 113)] m d K := fun m d K h hK => e_isRight (fun q => absurd q (by rw [h]; first | decide | (unfold z_I; decide))) (fun _ => hK)
  refine V_X12_readsPart_52 ⟨fun q => absurd q (by first | decide | (unfold z_I; decide)), fun _ => ir _ _ _ g10 (zy0' (ir _ _ _ g10 (zy0' ⟨by rw [g0]; first | decide | (unfold z_I; decide), ?_⟩)))⟩
  have h10 : ∀ v, z_st m' 115 0 v 113 10 = 1 := fun v => by rw [z_st_ne (by first | decide | (unfold z_I; decide))]; exact g10
  refine V_X12_solid_46 (ir _ _ _ (h10 _) (zy0' (V_X12_solid_79 (ir _ _ _ (h10 _) (zy0' (V_X12_solid_103 (ir _ _ _ (h10 _) (zy0' (V_X12_solid_126 (ir _ _ _ (by rw [z_st_ni (by first | decide | (unfold z_I; decide))]; exact h10 _) (zy0 ⟨?_, ?_, trivial⟩)))))))))))
  · rw [z_st_ni (by first | decide | (unfold z_I; decide)), h10]; first | decide | (unfold z_I; decide)
  · rw [z_st_ni (by first | decide | (unfold z_I; decide)), h10]; first | decide | (unfold z_I; decide)
theorem p1_op : op_all (fun μ => μ = z_mu0) (fun _ => True) := ⟨p1_op_0, p1_op_1, p1_op_2, p1_op_3, p1_op_4, p1_op_5, p1_op_6, p1_op_7, p1_op_8, p1_op_9, p1_op_10, p1_op_11, p1_op_12, p1_op_13, p1_op_14, p1_op_15, p1_op_16, p1_op_17, p1_op_18, p1_op_19, p1_op_20, p1_op_21, p1_op_22, p1_op_23, p1_op_24, p1_op_25, p1_op_26, p1_op_27, p1_op_28, p1_op_29, p1_op_30, p1_op_31, p1_op_32, p1_op_33, p1_op_34⟩
def p1_I (k : Nat) (μ : z_Mem) : Prop := k = 0 → μ = z_mu0
theorem p1_ops (k : Nat) (h : 6 * k + 6 ≤ 6) : op_all (p1_I k) (p1_I (k + 1)) := by
  obtain rfl : k = 0 := by omega
  rw [show p1_I 0 = (fun μ => μ = z_mu0) from funext fun μ => propext ⟨fun h => h rfl, fun h _ => h⟩, show p1_I (0 + 1) = (fun _ => True) from funext fun μ => propext ⟨fun _ => trivial, fun _ h => absurd h (by omega)⟩]
  exact p1_op
theorem p1_start {p : Program} {e : Env} {s : State} {m : MethodId} {below : List Frame} {meth : Method} {c : Code} (l : Launch) {b L : Nat} {xs : Nat → Int32} (hL : L ≤ 6) (C0 : lw_At p s m meth c b L xs) : W p l e room_1 s m #[Value.ref b] below meth c s.heap [] 0 0 (lw_Z below #[Value.ref b] s) (entryFrame m ([Value.ref b] : List Value).toArray 4) :=
  zl_start (N0 := 6) (Inv := p1_I) (by decide) p1_ops (fun _ _ _ h => absurd h (by omega)) (fun _ => rfl) l hL C0

def z_fz (μ : z_Mem) (N : Nat) : Prop := ∀ p i : Int, (N : Int) < p → μ p i = 0
theorem z_fz_st {μ : z_Mem} {N : Nat} {o i v : Int} (h : z_fz μ N) (ho : o ≤ (N : Int)) : z_fz (z_st μ o i v) N := fun p j hp => by
  rw [z_st_ne (by omega)]
  exact h p j hp
theorem z_fz_up {μ : z_Mem} {N N1 : Nat} (h : z_fz μ N) (hN : N ≤ N1) : z_fz μ N1 := fun p j hp => h p j (by omega)
theorem z_fz_mm {μ : z_Mem} {N n : Nat} (h : z_fz μ N) : z_fz (z_mm μ N n) (N + 1 + n) := fun p j hp => by
  unfold z_mm
  rw [if_neg (by omega)]
  exact h p j (by omega)
theorem z_fzi {μ : z_Mem} {N : Nat} (h : z_fz μ N) : ∀ i, μ ((N : Int) + 1) i = 0 := fun i => h _ i (by omega)
theorem z_fzo {μ : z_Mem} {N n : Nat} (h : z_fz μ N) : ∀ o i : Int, (N : Int) < o → o ≤ ((N + 1 + n : Nat) : Int) → μ o i = 0 := fun o i h1 _ => h o i h1
def z_fitb (n : Nat) (v : z_V) : Bool := !(decide (v.1 = 2)) || decide (v.2 ≤ n)
theorem z_fitb_of {n : Nat} {v : z_V} (h : z_fitb n v = true) : z_fitv n v := fun hv => by
  unfold z_fitb at h
  rw [hv] at h
  simp at h
  exact Or.inl h
theorem z_fits {n : Nat} {sk : List z_V} (h : sk.all (z_fitb n) = true) : ∀ v ∈ sk, z_fitv n v := fun v hv => z_fitb_of (List.all_eq_true.mp h v hv)
theorem z_fitl {n : Nat} {lo : List (Option z_V)} (h : lo.all (fun v => match v with | some u => z_fitb n u | none => true) = true) : ∀ (i : Nat) (v : z_V), lo[i]? = some (some v) → z_fitv n v := fun i v hv => z_fitb_of (List.all_eq_true.mp h _ (List.mem_of_getElem? hv))
section ZY
variable {M : z_M} {pc : Nat} {lo lo1 : List (Option z_V)} {sk sk1 : List z_V} {w w1 : z_W} {μ μ1 : z_Mem} {d : Nat} {Q : Option z_V → z_Mem → Prop} {x y : Int}
theorem z_R_lo (h : lo = lo1) (k : z_R M pc lo1 sk w μ d Q) : z_R M pc lo sk w μ d Q := h ▸ k
theorem z_R_w (h : w = w1) (k : z_R M pc lo sk w1 μ d Q) : z_R M pc lo sk w μ d Q := h ▸ k
theorem z_R_mu (h : μ = μ1) (k : z_R M pc lo sk w μ1 d Q) : z_R M pc lo sk w μ d Q := h ▸ k
theorem z_R_sk0 (h : sk = sk1) (k : z_R M pc lo sk1 w μ d Q) : z_R M pc lo sk w μ d Q := h ▸ k
theorem z_R_sk (h : x = y) (k : z_R M pc lo ((0, y) :: sk) w μ d Q) : z_R M pc lo ((0, x) :: sk) w μ d Q := h ▸ k
theorem z_R_ref (h : x = y) (k : z_R M pc lo ((2, y) :: sk) w μ d Q) : z_R M pc lo ((2, x) :: sk) w μ d Q := h ▸ k
end ZY
def R_3 (μ : z_Mem) : z_Mem := (z_st (z_st (z_st (z_st (z_st μ 3 0 4) 3 1 0) 3 2 5) 3 3 0) 3 4 0)
theorem R_3_fz {μ : z_Mem} (hz : z_fz μ 3) : z_fz (R_3 μ) 5 := by
  have fz0 := hz
  have fz1 := z_fz_up fz0 (show 3 ≤ 4 by decide)
  have fz2 := z_fz_st (i := 0) (v := 4) fz1 (show ((3 : Int) ≤ 4) by decide)
  have fz3 := z_fz_st (i := 1) (v := 0) fz2 (show ((3 : Int) ≤ 4) by decide)
  have fz4 := z_fz_up fz3 (show 4 ≤ 5 by decide)
  have fz5 := z_fz_st (i := 2) (v := 5) fz4 (show ((3 : Int) ≤ 5) by decide)
  have fz6 := z_fz_st (i := 3) (v := 0) fz5 (show ((3 : Int) ≤ 5) by decide)
  have fz7 := z_fz_st (i := 4) (v := 0) fz6 (show ((3 : Int) ≤ 5) by decide)
  exact fz7
set_option maxRecDepth 20000 in
set_option maxHeartbeats 4000000 in
theorem I_3 {μ : z_Mem} {d : Nat} {Q : Option z_V → z_Mem → Prop} (hz : z_fz μ 3) (h : Q none (R_3 μ)) : z_call m_X4_init [(2, 3)] (3, 5, false) μ (d + 1) Q := by
  show z_R m_X4_init 0 [some (2, 3)] [] (3, 5, false) μ (d + 1) Q
  have fz0 := hz
  refine z_aload_n dX4_init_0 rfl ?_
  refine z_objinit dX4_init_1 zq_149 zq_142 zq_143 (by decide) (by decide) ?_
  refine z_aload_n dX4_init_4 rfl ?_
  refine z_bipush dX4_init_5 (by decide) ?_
  refine z_newI (N := 3) (n := 21) dX4_init_7 zq_168 (by decide +kernel) (by decide) (by decide) (by decide) (z_fitl (by decide)) (z_fits (by decide)) (z_fzi fz0) ?_
  have fz1 := z_fz_up fz0 (show 3 ≤ 4 by decide)
  refine z_R_ref (x := ((3 : Nat) : Int) + 1) (y := 4) rfl ?_
  refine z_putF (t := 2) dX4_init_9 zf_X4_9 ⟨by decide, by decide, by decide +kernel⟩ rfl rfl (fun q hq => by cases hq; rfl) ⟨by decide, by decide⟩ (fun ad => by rw [show (z_ftag 4 0) = 2 from rfl, z_rfp (x := 4) (by decide)]; exact ⟨rfl, rfl⟩) rfl ?_
  refine z_R_mu (μ1 := z_st _ 3 0 4) rfl ?_
  have fz2 := z_fz_st (i := 0) (v := 4) fz1 (show ((3 : Int) ≤ 4) by decide)
  refine z_aload_n dX4_init_12 rfl ?_
  refine z_iconst dX4_init_13 ⟨by decide, by decide⟩ ?_
  refine z_putf (t := 0) dX4_init_14 zf_X4_15 ⟨by decide, by decide, by decide +kernel⟩ rfl ⟨by decide, by decide⟩ (fun _ => ⟨rfl, rfl⟩) (fun q => by cases q) ?_
  refine z_R_mu (μ1 := z_st _ 3 1 0) rfl ?_
  have fz3 := z_fz_st (i := 1) (v := 0) fz2 (show ((3 : Int) ≤ 4) by decide)
  refine z_aload_n dX4_init_17 rfl ?_
  refine z_iconst dX4_init_18 ⟨by decide, by decide⟩ ?_
  refine z_newI (N := 4) (n := 0) dX4_init_19 zq_168 (by decide +kernel) (by decide) (by decide) (by decide) (z_fitl (by decide)) (z_fits (by decide)) (z_fzi fz3) ?_
  have fz4 := z_fz_up fz3 (show 4 ≤ 5 by decide)
  refine z_R_ref (x := ((4 : Nat) : Int) + 1) (y := 5) rfl ?_
  refine z_putf (t := 2) dX4_init_21 zf_X4_19 ⟨by decide, by decide, by decide +kernel⟩ rfl ⟨by decide, by decide⟩ (fun ad => by rw [show (z_ftag 4 2) = 2 from rfl, z_rfp (x := 5) (by decide)]; exact ⟨rfl, rfl⟩) (fun q => by cases q) ?_
  refine z_R_mu (μ1 := z_st _ 3 2 5) rfl ?_
  have fz5 := z_fz_st (i := 2) (v := 5) fz4 (show ((3 : Int) ≤ 5) by decide)
  refine z_aload_n dX4_init_24 rfl ?_
  refine z_iconst dX4_init_25 ⟨by decide, by decide⟩ ?_
  refine z_putf (t := 0) dX4_init_26 zf_X4_22 ⟨by decide, by decide, by decide +kernel⟩ rfl ⟨by decide, by decide⟩ (fun _ => ⟨rfl, rfl⟩) (fun q => by cases q) ?_
  refine z_R_mu (μ1 := z_st _ 3 3 0) rfl ?_
  have fz6 := z_fz_st (i := 3) (v := 0) fz5 (show ((3 : Int) ≤ 5) by decide)
  refine z_aload_n dX4_init_29 rfl ?_
  refine z_iconst dX4_init_30 ⟨by decide, by decide⟩ ?_
  refine z_putf (t := 0) dX4_init_31 zf_X4_25 ⟨by decide, by decide, by decide +kernel⟩ rfl ⟨by decide, by decide⟩ (fun _ => ⟨rfl, rfl⟩) (fun q => by cases q) ?_
  refine z_R_mu (μ1 := z_st _ 3 4 0) rfl ?_
  have fz7 := z_fz_st (i := 4) (v := 0) fz6 (show ((3 : Int) ≤ 5) by decide)
  exact z_return dX4_init_34 rfl rfl h
def R_6 (μ : z_Mem) : z_Mem := (z_st (z_st (z_st (z_st (z_st (z_st (z_st (z_st (z_st (z_st (z_st (z_st (z_st (z_st (z_st (z_st (z_st (z_st μ 6 0 0) 6 1 7) 6 2 0) 6 3 8) 6 4 9) 6 5 10) 6 6 11) 6 7 12) 6 8 0) 6 9 13) 6 10 14) 6 11 0) 6 12 15) 6 13 16) 6 14 17) 6 15 18) 6 16 19) 6 17 20)
theorem R_6_fz {μ : z_Mem} (hz : z_fz μ 6) : z_fz (R_6 μ) 20 := by
  have fz0 := hz
  have fz1 := z_fz_st (i := 0) (v := 0) fz0 (show ((6 : Int) ≤ 6) by decide)
  have fz2 := z_fz_up fz1 (show 6 ≤ 7 by decide)
  have fz3 := z_fz_st (i := 1) (v := 7) fz2 (show ((6 : Int) ≤ 7) by decide)
  have fz4 := z_fz_st (i := 2) (v := 0) fz3 (show ((6 : Int) ≤ 7) by decide)
  have fz5 := z_fz_up fz4 (show 7 ≤ 8 by decide)
  have fz6 := z_fz_st (i := 3) (v := 8) fz5 (show ((6 : Int) ≤ 8) by decide)
  have fz7 := z_fz_up fz6 (show 8 ≤ 9 by decide)
  have fz8 := z_fz_st (i := 4) (v := 9) fz7 (show ((6 : Int) ≤ 9) by decide)
  have fz9 := z_fz_up fz8 (show 9 ≤ 10 by decide)
  have fz10 := z_fz_st (i := 5) (v := 10) fz9 (show ((6 : Int) ≤ 10) by decide)
  have fz11 := z_fz_up fz10 (show 10 ≤ 11 by decide)
  have fz12 := z_fz_st (i := 6) (v := 11) fz11 (show ((6 : Int) ≤ 11) by decide)
  have fz13 := z_fz_up fz12 (show 11 ≤ 12 by decide)
  have fz14 := z_fz_st (i := 7) (v := 12) fz13 (show ((6 : Int) ≤ 12) by decide)
  have fz15 := z_fz_st (i := 8) (v := 0) fz14 (show ((6 : Int) ≤ 12) by decide)
  have fz16 := z_fz_up fz15 (show 12 ≤ 13 by decide)
  have fz17 := z_fz_st (i := 9) (v := 13) fz16 (show ((6 : Int) ≤ 13) by decide)
  have fz18 := z_fz_up fz17 (show 13 ≤ 14 by decide)
  have fz19 := z_fz_st (i := 10) (v := 14) fz18 (show ((6 : Int) ≤ 14) by decide)
  have fz20 := z_fz_st (i := 11) (v := 0) fz19 (show ((6 : Int) ≤ 14) by decide)
  have fz21 := z_fz_up fz20 (show 14 ≤ 15 by decide)
  have fz22 := z_fz_st (i := 12) (v := 15) fz21 (show ((6 : Int) ≤ 15) by decide)
  have fz23 := z_fz_up fz22 (show 15 ≤ 16 by decide)
  have fz24 := z_fz_st (i := 13) (v := 16) fz23 (show ((6 : Int) ≤ 16) by decide)
  have fz25 := z_fz_up fz24 (show 16 ≤ 17 by decide)
  have fz26 := z_fz_st (i := 14) (v := 17) fz25 (show ((6 : Int) ≤ 17) by decide)
  have fz27 := z_fz_up fz26 (show 17 ≤ 18 by decide)
  have fz28 := z_fz_st (i := 15) (v := 18) fz27 (show ((6 : Int) ≤ 18) by decide)
  have fz29 := z_fz_up fz28 (show 18 ≤ 19 by decide)
  have fz30 := z_fz_st (i := 16) (v := 19) fz29 (show ((6 : Int) ≤ 19) by decide)
  have fz31 := z_fz_up fz30 (show 19 ≤ 20 by decide)
  have fz32 := z_fz_st (i := 17) (v := 20) fz31 (show ((6 : Int) ≤ 20) by decide)
  exact fz32
set_option maxRecDepth 20000 in
set_option maxHeartbeats 4000000 in
theorem I_6 {μ : z_Mem} {d : Nat} {Q : Option z_V → z_Mem → Prop} (hz : z_fz μ 6) (h : Q none (R_6 μ)) : z_call m_X9_init [(2, 6)] (6, 20, false) μ (d + 1) Q := by
  show z_R m_X9_init 0 [some (2, 6)] [] (6, 20, false) μ (d + 1) Q
  have fz0 := hz
  refine z_aload_n dX9_init_0 rfl ?_
  refine z_objinit dX9_init_1 zq_174 zq_142 zq_143 (by decide) (by decide) ?_
  refine z_aload_n dX9_init_4 rfl ?_
  refine z_iconst dX9_init_5 ⟨by decide, by decide⟩ ?_
  refine z_putf (t := 0) dX9_init_6 zf_X9_9 ⟨by decide, by decide, by decide +kernel⟩ rfl ⟨by decide, by decide⟩ (fun _ => ⟨rfl, rfl⟩) (fun q => by cases q) ?_
  refine z_R_mu (μ1 := z_st _ 6 0 0) rfl ?_
  have fz1 := z_fz_st (i := 0) (v := 0) fz0 (show ((6 : Int) ≤ 6) by decide)
  refine z_aload_n dX9_init_9 rfl ?_
  refine z_bipush dX9_init_10 (by decide) ?_
  refine z_newI (N := 6) (n := 21) dX9_init_12 zq_168 (by decide +kernel) (by decide) (by decide) (by decide) (z_fitl (by decide)) (z_fits (by decide)) (z_fzi fz1) ?_
  have fz2 := z_fz_up fz1 (show 6 ≤ 7 by decide)
  refine z_R_ref (x := ((6 : Nat) : Int) + 1) (y := 7) rfl ?_
  refine z_putF (t := 2) dX9_init_14 zf_X9_15 ⟨by decide, by decide, by decide +kernel⟩ rfl rfl (fun q hq => by cases hq; rfl) ⟨by decide, by decide⟩ (fun ad => by rw [show (z_ftag 9 1) = 2 from rfl, z_rfp (x := 7) (by decide)]; exact ⟨rfl, rfl⟩) rfl ?_
  refine z_R_mu (μ1 := z_st _ 6 1 7) rfl ?_
  have fz3 := z_fz_st (i := 1) (v := 7) fz2 (show ((6 : Int) ≤ 7) by decide)
  refine z_aload_n dX9_init_17 rfl ?_
  refine z_iconst dX9_init_18 ⟨by decide, by decide⟩ ?_
  refine z_putf (t := 0) dX9_init_19 zf_X9_19 ⟨by decide, by decide, by decide +kernel⟩ rfl ⟨by decide, by decide⟩ (fun _ => ⟨rfl, rfl⟩) (fun q => by cases q) ?_
  refine z_R_mu (μ1 := z_st _ 6 2 0) rfl ?_
  have fz4 := z_fz_st (i := 2) (v := 0) fz3 (show ((6 : Int) ≤ 7) by decide)
  refine z_aload_n dX9_init_22 rfl ?_
  refine z_bipush dX9_init_23 (by decide) ?_
  refine z_newI (N := 7) (n := 42) dX9_init_25 zq_168 (by decide +kernel) (by decide) (by decide) (by decide) (z_fitl (by decide)) (z_fits (by decide)) (z_fzi fz4) ?_
  have fz5 := z_fz_up fz4 (show 7 ≤ 8 by decide)
  refine z_R_ref (x := ((7 : Nat) : Int) + 1) (y := 8) rfl ?_
  refine z_putF (t := 2) dX9_init_27 zf_X9_22 ⟨by decide, by decide, by decide +kernel⟩ rfl rfl (fun q hq => by cases hq; rfl) ⟨by decide, by decide⟩ (fun ad => by rw [show (z_ftag 9 3) = 2 from rfl, z_rfp (x := 8) (by decide)]; exact ⟨rfl, rfl⟩) rfl ?_
  refine z_R_mu (μ1 := z_st _ 6 3 8) rfl ?_
  have fz6 := z_fz_st (i := 3) (v := 8) fz5 (show ((6 : Int) ≤ 8) by decide)
  refine z_aload_n dX9_init_30 rfl ?_
  refine z_bipush dX9_init_31 (by decide) ?_
  refine z_newI (N := 8) (n := 30) dX9_init_33 zq_168 (by decide +kernel) (by decide) (by decide) (by decide) (z_fitl (by decide)) (z_fits (by decide)) (z_fzi fz6) ?_
  have fz7 := z_fz_up fz6 (show 8 ≤ 9 by decide)
  refine z_R_ref (x := ((8 : Nat) : Int) + 1) (y := 9) rfl ?_
  refine z_putF (t := 2) dX9_init_35 zf_X9_25 ⟨by decide, by decide, by decide +kernel⟩ rfl rfl (fun q hq => by cases hq; rfl) ⟨by decide, by decide⟩ (fun ad => by rw [show (z_ftag 9 4) = 2 from rfl, z_rfp (x := 9) (by decide)]; exact ⟨rfl, rfl⟩) rfl ?_
  refine z_R_mu (μ1 := z_st _ 6 4 9) rfl ?_
  have fz8 := z_fz_st (i := 4) (v := 9) fz7 (show ((6 : Int) ≤ 9) by decide)
  refine z_aload_n dX9_init_38 rfl ?_
  refine z_bipush dX9_init_39 (by decide) ?_
  refine z_newI (N := 9) (n := 30) dX9_init_41 zq_168 (by decide +kernel) (by decide) (by decide) (by decide) (z_fitl (by decide)) (z_fits (by decide)) (z_fzi fz8) ?_
  have fz9 := z_fz_up fz8 (show 9 ≤ 10 by decide)
  refine z_R_ref (x := ((9 : Nat) : Int) + 1) (y := 10) rfl ?_
  refine z_putF (t := 2) dX9_init_43 zf_X9_28 ⟨by decide, by decide, by decide +kernel⟩ rfl rfl (fun q hq => by cases hq; rfl) ⟨by decide, by decide⟩ (fun ad => by rw [show (z_ftag 9 5) = 2 from rfl, z_rfp (x := 10) (by decide)]; exact ⟨rfl, rfl⟩) rfl ?_
  refine z_R_mu (μ1 := z_st _ 6 5 10) rfl ?_
  have fz10 := z_fz_st (i := 5) (v := 10) fz9 (show ((6 : Int) ≤ 10) by decide)
  refine z_aload_n dX9_init_46 rfl ?_
  refine z_bipush dX9_init_47 (by decide) ?_
  refine z_newI (N := 10) (n := 120) dX9_init_49 zq_168 (by decide +kernel) (by decide) (by decide) (by decide) (z_fitl (by decide)) (z_fits (by decide)) (z_fzi fz10) ?_
  have fz11 := z_fz_up fz10 (show 10 ≤ 11 by decide)
  refine z_R_ref (x := ((10 : Nat) : Int) + 1) (y := 11) rfl ?_
  refine z_putF (t := 2) dX9_init_51 zf_X9_31 ⟨by decide, by decide, by decide +kernel⟩ rfl rfl (fun q hq => by cases hq; rfl) ⟨by decide, by decide⟩ (fun ad => by rw [show (z_ftag 9 6) = 2 from rfl, z_rfp (x := 11) (by decide)]; exact ⟨rfl, rfl⟩) rfl ?_
  refine z_R_mu (μ1 := z_st _ 6 6 11) rfl ?_
  have fz12 := z_fz_st (i := 6) (v := 11) fz11 (show ((6 : Int) ≤ 11) by decide)
  refine z_aload_n dX9_init_54 rfl ?_
  refine z_bipush dX9_init_55 (by decide) ?_
  refine z_newI (N := 11) (n := 120) dX9_init_57 zq_168 (by decide +kernel) (by decide) (by decide) (by decide) (z_fitl (by decide)) (z_fits (by decide)) (z_fzi fz12) ?_
  have fz13 := z_fz_up fz12 (show 11 ≤ 12 by decide)
  refine z_R_ref (x := ((11 : Nat) : Int) + 1) (y := 12) rfl ?_
  refine z_putF (t := 2) dX9_init_59 zf_X9_34 ⟨by decide, by decide, by decide +kernel⟩ rfl rfl (fun q hq => by cases hq; rfl) ⟨by decide, by decide⟩ (fun ad => by rw [show (z_ftag 9 7) = 2 from rfl, z_rfp (x := 12) (by decide)]; exact ⟨rfl, rfl⟩) rfl ?_
  refine z_R_mu (μ1 := z_st _ 6 7 12) rfl ?_
  have fz14 := z_fz_st (i := 7) (v := 12) fz13 (show ((6 : Int) ≤ 12) by decide)
  refine z_aload_n dX9_init_62 rfl ?_
  refine z_iconst dX9_init_63 ⟨by decide, by decide⟩ ?_
  refine z_putf (t := 0) dX9_init_64 zf_X9_37 ⟨by decide, by decide, by decide +kernel⟩ rfl ⟨by decide, by decide⟩ (fun _ => ⟨rfl, rfl⟩) (fun q => by cases q) ?_
  refine z_R_mu (μ1 := z_st _ 6 8 0) rfl ?_
  have fz15 := z_fz_st (i := 8) (v := 0) fz14 (show ((6 : Int) ≤ 12) by decide)
  refine z_aload_n dX9_init_67 rfl ?_
  refine z_bipush dX9_init_68 (by decide) ?_
  refine z_newI (N := 12) (n := 120) dX9_init_70 zq_168 (by decide +kernel) (by decide) (by decide) (by decide) (z_fitl (by decide)) (z_fits (by decide)) (z_fzi fz15) ?_
  have fz16 := z_fz_up fz15 (show 12 ≤ 13 by decide)
  refine z_R_ref (x := ((12 : Nat) : Int) + 1) (y := 13) rfl ?_
  refine z_putF (t := 2) dX9_init_72 zf_X9_40 ⟨by decide, by decide, by decide +kernel⟩ rfl rfl (fun q hq => by cases hq; rfl) ⟨by decide, by decide⟩ (fun ad => by rw [show (z_ftag 9 9) = 2 from rfl, z_rfp (x := 13) (by decide)]; exact ⟨rfl, rfl⟩) rfl ?_
  refine z_R_mu (μ1 := z_st _ 6 9 13) rfl ?_
  have fz17 := z_fz_st (i := 9) (v := 13) fz16 (show ((6 : Int) ≤ 13) by decide)
  refine z_aload_n dX9_init_75 rfl ?_
  refine z_bipush dX9_init_76 (by decide) ?_
  refine z_newI (N := 13) (n := 60) dX9_init_78 zq_168 (by decide +kernel) (by decide) (by decide) (by decide) (z_fitl (by decide)) (z_fits (by decide)) (z_fzi fz17) ?_
  have fz18 := z_fz_up fz17 (show 13 ≤ 14 by decide)
  refine z_R_ref (x := ((13 : Nat) : Int) + 1) (y := 14) rfl ?_
  refine z_putF (t := 2) dX9_init_80 zf_X9_43 ⟨by decide, by decide, by decide +kernel⟩ rfl rfl (fun q hq => by cases hq; rfl) ⟨by decide, by decide⟩ (fun ad => by rw [show (z_ftag 9 10) = 2 from rfl, z_rfp (x := 14) (by decide)]; exact ⟨rfl, rfl⟩) rfl ?_
  refine z_R_mu (μ1 := z_st _ 6 10 14) rfl ?_
  have fz19 := z_fz_st (i := 10) (v := 14) fz18 (show ((6 : Int) ≤ 14) by decide)
  refine z_aload_n dX9_init_83 rfl ?_
  refine z_iconst dX9_init_84 ⟨by decide, by decide⟩ ?_
  refine z_putf (t := 0) dX9_init_85 zf_X9_46 ⟨by decide, by decide, by decide +kernel⟩ rfl ⟨by decide, by decide⟩ (fun _ => ⟨rfl, rfl⟩) (fun q => by cases q) ?_
  refine z_R_mu (μ1 := z_st _ 6 11 0) rfl ?_
  have fz20 := z_fz_st (i := 11) (v := 0) fz19 (show ((6 : Int) ≤ 14) by decide)
  refine z_aload_n dX9_init_88 rfl ?_
  refine z_bipush dX9_init_89 (by decide) ?_
  refine z_newI (N := 14) (n := 120) dX9_init_91 zq_168 (by decide +kernel) (by decide) (by decide) (by decide) (z_fitl (by decide)) (z_fits (by decide)) (z_fzi fz20) ?_
  have fz21 := z_fz_up fz20 (show 14 ≤ 15 by decide)
  refine z_R_ref (x := ((14 : Nat) : Int) + 1) (y := 15) rfl ?_
  refine z_putF (t := 2) dX9_init_93 zf_X9_49 ⟨by decide, by decide, by decide +kernel⟩ rfl rfl (fun q hq => by cases hq; rfl) ⟨by decide, by decide⟩ (fun ad => by rw [show (z_ftag 9 12) = 2 from rfl, z_rfp (x := 15) (by decide)]; exact ⟨rfl, rfl⟩) rfl ?_
  refine z_R_mu (μ1 := z_st _ 6 12 15) rfl ?_
  have fz22 := z_fz_st (i := 12) (v := 15) fz21 (show ((6 : Int) ≤ 15) by decide)
  refine z_aload_n dX9_init_96 rfl ?_
  refine z_bipush dX9_init_97 (by decide) ?_
  refine z_newI (N := 15) (n := 120) dX9_init_99 zq_168 (by decide +kernel) (by decide) (by decide) (by decide) (z_fitl (by decide)) (z_fits (by decide)) (z_fzi fz22) ?_
  have fz23 := z_fz_up fz22 (show 15 ≤ 16 by decide)
  refine z_R_ref (x := ((15 : Nat) : Int) + 1) (y := 16) rfl ?_
  refine z_putF (t := 2) dX9_init_101 zf_X9_52 ⟨by decide, by decide, by decide +kernel⟩ rfl rfl (fun q hq => by cases hq; rfl) ⟨by decide, by decide⟩ (fun ad => by rw [show (z_ftag 9 13) = 2 from rfl, z_rfp (x := 16) (by decide)]; exact ⟨rfl, rfl⟩) rfl ?_
  refine z_R_mu (μ1 := z_st _ 6 13 16) rfl ?_
  have fz24 := z_fz_st (i := 13) (v := 16) fz23 (show ((6 : Int) ≤ 16) by decide)
  refine z_aload_n dX9_init_104 rfl ?_
  refine z_bipush dX9_init_105 (by decide) ?_
  refine z_newI (N := 16) (n := 30) dX9_init_107 zq_168 (by decide +kernel) (by decide) (by decide) (by decide) (z_fitl (by decide)) (z_fits (by decide)) (z_fzi fz24) ?_
  have fz25 := z_fz_up fz24 (show 16 ≤ 17 by decide)
  refine z_R_ref (x := ((16 : Nat) : Int) + 1) (y := 17) rfl ?_
  refine z_putF (t := 2) dX9_init_109 zf_X9_55 ⟨by decide, by decide, by decide +kernel⟩ rfl rfl (fun q hq => by cases hq; rfl) ⟨by decide, by decide⟩ (fun ad => by rw [show (z_ftag 9 14) = 2 from rfl, z_rfp (x := 17) (by decide)]; exact ⟨rfl, rfl⟩) rfl ?_
  refine z_R_mu (μ1 := z_st _ 6 14 17) rfl ?_
  have fz26 := z_fz_st (i := 14) (v := 17) fz25 (show ((6 : Int) ≤ 17) by decide)
  refine z_aload_n dX9_init_112 rfl ?_
  refine z_bipush dX9_init_113 (by decide) ?_
  refine z_newI (N := 17) (n := 30) dX9_init_115 zq_168 (by decide +kernel) (by decide) (by decide) (by decide) (z_fitl (by decide)) (z_fits (by decide)) (z_fzi fz26) ?_
  have fz27 := z_fz_up fz26 (show 17 ≤ 18 by decide)
  refine z_R_ref (x := ((17 : Nat) : Int) + 1) (y := 18) rfl ?_
  refine z_putF (t := 2) dX9_init_117 zf_X9_58 ⟨by decide, by decide, by decide +kernel⟩ rfl rfl (fun q hq => by cases hq; rfl) ⟨by decide, by decide⟩ (fun ad => by rw [show (z_ftag 9 15) = 2 from rfl, z_rfp (x := 18) (by decide)]; exact ⟨rfl, rfl⟩) rfl ?_
  refine z_R_mu (μ1 := z_st _ 6 15 18) rfl ?_
  have fz28 := z_fz_st (i := 15) (v := 18) fz27 (show ((6 : Int) ≤ 18) by decide)
  refine z_aload_n dX9_init_120 rfl ?_
  refine z_bipush dX9_init_121 (by decide) ?_
  refine z_newI (N := 18) (n := 30) dX9_init_123 zq_168 (by decide +kernel) (by decide) (by decide) (by decide) (z_fitl (by decide)) (z_fits (by decide)) (z_fzi fz28) ?_
  have fz29 := z_fz_up fz28 (show 18 ≤ 19 by decide)
  refine z_R_ref (x := ((18 : Nat) : Int) + 1) (y := 19) rfl ?_
  refine z_putF (t := 2) dX9_init_125 zf_X9_61 ⟨by decide, by decide, by decide +kernel⟩ rfl rfl (fun q hq => by cases hq; rfl) ⟨by decide, by decide⟩ (fun ad => by rw [show (z_ftag 9 16) = 2 from rfl, z_rfp (x := 19) (by decide)]; exact ⟨rfl, rfl⟩) rfl ?_
  refine z_R_mu (μ1 := z_st _ 6 16 19) rfl ?_
  have fz30 := z_fz_st (i := 16) (v := 19) fz29 (show ((6 : Int) ≤ 19) by decide)
  refine z_aload_n dX9_init_128 rfl ?_
  refine z_bipush dX9_init_129 (by decide) ?_
  refine z_newI (N := 19) (n := 30) dX9_init_131 zq_168 (by decide +kernel) (by decide) (by decide) (by decide) (z_fitl (by decide)) (z_fits (by decide)) (z_fzi fz30) ?_
  have fz31 := z_fz_up fz30 (show 19 ≤ 20 by decide)
  refine z_R_ref (x := ((19 : Nat) : Int) + 1) (y := 20) rfl ?_
  refine z_putF (t := 2) dX9_init_133 zf_X9_64 ⟨by decide, by decide, by decide +kernel⟩ rfl rfl (fun q hq => by cases hq; rfl) ⟨by decide, by decide⟩ (fun ad => by rw [show (z_ftag 9 17) = 2 from rfl, z_rfp (x := 20) (by decide)]; exact ⟨rfl, rfl⟩) rfl ?_
  refine z_R_mu (μ1 := z_st _ 6 17 20) rfl ?_
  have fz32 := z_fz_st (i := 17) (v := 20) fz31 (show ((6 : Int) ≤ 20) by decide)
  exact z_return dX9_init_136 rfl rfl h
def R_21 (μ : z_Mem) : z_Mem := (z_st (z_st (z_st μ 21 0 0) 21 1 0) 21 2 22)
theorem R_21_fz {μ : z_Mem} (hz : z_fz μ 21) : z_fz (R_21 μ) 22 := by
  have fz0 := hz
  have fz1 := z_fz_st (i := 0) (v := 0) fz0 (show ((21 : Int) ≤ 21) by decide)
  have fz2 := z_fz_st (i := 1) (v := 0) fz1 (show ((21 : Int) ≤ 21) by decide)
  have fz3 := z_fz_up fz2 (show 21 ≤ 22 by decide)
  have fz4 := z_fz_st (i := 2) (v := 22) fz3 (show ((21 : Int) ≤ 22) by decide)
  exact fz4
set_option maxRecDepth 20000 in
set_option maxHeartbeats 4000000 in
theorem I_21 {μ : z_Mem} {d : Nat} {Q : Option z_V → z_Mem → Prop} (hz : z_fz μ 21) (h : Q none (R_21 μ)) : z_call m_X3_init [(2, 21)] (21, 22, false) μ (d + 1) Q := by
  show z_R m_X3_init 0 [some (2, 21)] [] (21, 22, false) μ (d + 1) Q
  have fz0 := hz
  refine z_aload_n dX3_init_0 rfl ?_
  refine z_objinit dX3_init_1 zq_262 zq_142 zq_143 (by decide) (by decide) ?_
  refine z_aload_n dX3_init_4 rfl ?_
  refine z_lconst0 dX3_init_5 ?_
  refine z_putf (t := 1) dX3_init_6 zf_X3_9 ⟨by decide, by decide, by decide +kernel⟩ rfl ⟨by decide, by decide⟩ (fun _ => ⟨rfl, rfl⟩) (fun q => by cases q) ?_
  refine z_R_mu (μ1 := z_st _ 21 0 0) rfl ?_
  have fz1 := z_fz_st (i := 0) (v := 0) fz0 (show ((21 : Int) ≤ 21) by decide)
  refine z_aload_n dX3_init_9 rfl ?_
  refine z_iconst dX3_init_10 ⟨by decide, by decide⟩ ?_
  refine z_putf (t := 0) dX3_init_11 zf_X3_15 ⟨by decide, by decide, by decide +kernel⟩ rfl ⟨by decide, by decide⟩ (fun _ => ⟨rfl, rfl⟩) (fun q => by cases q) ?_
  refine z_R_mu (μ1 := z_st _ 21 1 0) rfl ?_
  have fz2 := z_fz_st (i := 1) (v := 0) fz1 (show ((21 : Int) ≤ 21) by decide)
  refine z_aload_n dX3_init_14 rfl ?_
  refine z_bipush dX3_init_15 (by decide) ?_
  refine z_newI (N := 21) (n := 60) dX3_init_17 zq_168 (by decide +kernel) (by decide) (by decide) (by decide) (z_fitl (by decide)) (z_fits (by decide)) (z_fzi fz2) ?_
  have fz3 := z_fz_up fz2 (show 21 ≤ 22 by decide)
  refine z_R_ref (x := ((21 : Nat) : Int) + 1) (y := 22) rfl ?_
  refine z_putF (t := 2) dX3_init_19 zf_X3_19 ⟨by decide, by decide, by decide +kernel⟩ rfl rfl (fun q hq => by cases hq; rfl) ⟨by decide, by decide⟩ (fun ad => by rw [show (z_ftag 3 2) = 2 from rfl, z_rfp (x := 22) (by decide)]; exact ⟨rfl, rfl⟩) rfl ?_
  refine z_R_mu (μ1 := z_st _ 21 2 22) rfl ?_
  have fz4 := z_fz_st (i := 2) (v := 22) fz3 (show ((21 : Int) ≤ 22) by decide)
  exact z_return dX3_init_22 rfl rfl h
def R_23 (μ : z_Mem) : z_Mem := (z_st (z_st (z_st (z_st (z_st (z_st (z_st μ 23 0 24) 23 1 25) 23 2 26) 23 3 27) 23 4 28) 23 5 0) 23 6 0)
theorem R_23_fz {μ : z_Mem} (hz : z_fz μ 23) : z_fz (R_23 μ) 28 := by
  have fz0 := hz
  have fz1 := z_fz_up fz0 (show 23 ≤ 24 by decide)
  have fz2 := z_fz_st (i := 0) (v := 24) fz1 (show ((23 : Int) ≤ 24) by decide)
  have fz3 := z_fz_up fz2 (show 24 ≤ 25 by decide)
  have fz4 := z_fz_st (i := 1) (v := 25) fz3 (show ((23 : Int) ≤ 25) by decide)
  have fz5 := z_fz_up fz4 (show 25 ≤ 26 by decide)
  have fz6 := z_fz_st (i := 2) (v := 26) fz5 (show ((23 : Int) ≤ 26) by decide)
  have fz7 := z_fz_up fz6 (show 26 ≤ 27 by decide)
  have fz8 := z_fz_st (i := 3) (v := 27) fz7 (show ((23 : Int) ≤ 27) by decide)
  have fz9 := z_fz_up fz8 (show 27 ≤ 28 by decide)
  have fz10 := z_fz_st (i := 4) (v := 28) fz9 (show ((23 : Int) ≤ 28) by decide)
  have fz11 := z_fz_st (i := 5) (v := 0) fz10 (show ((23 : Int) ≤ 28) by decide)
  have fz12 := z_fz_st (i := 6) (v := 0) fz11 (show ((23 : Int) ≤ 28) by decide)
  exact fz12
set_option maxRecDepth 20000 in
set_option maxHeartbeats 4000000 in
theorem I_23 {μ : z_Mem} {d : Nat} {Q : Option z_V → z_Mem → Prop} (hz : z_fz μ 23) (h : Q none (R_23 μ)) : z_call m_X6_init [(2, 23)] (23, 28, false) μ (d + 1) Q := by
  show z_R m_X6_init 0 [some (2, 23)] [] (23, 28, false) μ (d + 1) Q
  have fz0 := hz
  refine z_aload_n dX6_init_0 rfl ?_
  refine z_objinit dX6_init_1 zq_284 zq_142 zq_143 (by decide) (by decide) ?_
  refine z_aload_n dX6_init_4 rfl ?_
  refine z_bipush dX6_init_5 (by decide) ?_
  refine z_newI (N := 23) (n := 30) dX6_init_7 zq_168 (by decide +kernel) (by decide) (by decide) (by decide) (z_fitl (by decide)) (z_fits (by decide)) (z_fzi fz0) ?_
  have fz1 := z_fz_up fz0 (show 23 ≤ 24 by decide)
  refine z_R_ref (x := ((23 : Nat) : Int) + 1) (y := 24) rfl ?_
  refine z_putF (t := 2) dX6_init_9 zf_X6_9 ⟨by decide, by decide, by decide +kernel⟩ rfl rfl (fun q hq => by cases hq; rfl) ⟨by decide, by decide⟩ (fun ad => by rw [show (z_ftag 6 0) = 2 from rfl, z_rfp (x := 24) (by decide)]; exact ⟨rfl, rfl⟩) rfl ?_
  refine z_R_mu (μ1 := z_st _ 23 0 24) rfl ?_
  have fz2 := z_fz_st (i := 0) (v := 24) fz1 (show ((23 : Int) ≤ 24) by decide)
  refine z_aload_n dX6_init_12 rfl ?_
  refine z_bipush dX6_init_13 (by decide) ?_
  refine z_newI (N := 24) (n := 30) dX6_init_15 zq_168 (by decide +kernel) (by decide) (by decide) (by decide) (z_fitl (by decide)) (z_fits (by decide)) (z_fzi fz2) ?_
  have fz3 := z_fz_up fz2 (show 24 ≤ 25 by decide)
  refine z_R_ref (x := ((24 : Nat) : Int) + 1) (y := 25) rfl ?_
  refine z_putF (t := 2) dX6_init_17 zf_X6_15 ⟨by decide, by decide, by decide +kernel⟩ rfl rfl (fun q hq => by cases hq; rfl) ⟨by decide, by decide⟩ (fun ad => by rw [show (z_ftag 6 1) = 2 from rfl, z_rfp (x := 25) (by decide)]; exact ⟨rfl, rfl⟩) rfl ?_
  refine z_R_mu (μ1 := z_st _ 23 1 25) rfl ?_
  have fz4 := z_fz_st (i := 1) (v := 25) fz3 (show ((23 : Int) ≤ 25) by decide)
  refine z_aload_n dX6_init_20 rfl ?_
  refine z_bipush dX6_init_21 (by decide) ?_
  refine z_newI (N := 25) (n := 30) dX6_init_23 zq_168 (by decide +kernel) (by decide) (by decide) (by decide) (z_fitl (by decide)) (z_fits (by decide)) (z_fzi fz4) ?_
  have fz5 := z_fz_up fz4 (show 25 ≤ 26 by decide)
  refine z_R_ref (x := ((25 : Nat) : Int) + 1) (y := 26) rfl ?_
  refine z_putF (t := 2) dX6_init_25 zf_X6_18 ⟨by decide, by decide, by decide +kernel⟩ rfl rfl (fun q hq => by cases hq; rfl) ⟨by decide, by decide⟩ (fun ad => by rw [show (z_ftag 6 2) = 2 from rfl, z_rfp (x := 26) (by decide)]; exact ⟨rfl, rfl⟩) rfl ?_
  refine z_R_mu (μ1 := z_st _ 23 2 26) rfl ?_
  have fz6 := z_fz_st (i := 2) (v := 26) fz5 (show ((23 : Int) ≤ 26) by decide)
  refine z_aload_n dX6_init_28 rfl ?_
  refine z_bipush dX6_init_29 (by decide) ?_
  refine z_newI (N := 26) (n := 30) dX6_init_31 zq_168 (by decide +kernel) (by decide) (by decide) (by decide) (z_fitl (by decide)) (z_fits (by decide)) (z_fzi fz6) ?_
  have fz7 := z_fz_up fz6 (show 26 ≤ 27 by decide)
  refine z_R_ref (x := ((26 : Nat) : Int) + 1) (y := 27) rfl ?_
  refine z_putF (t := 2) dX6_init_33 zf_X6_21 ⟨by decide, by decide, by decide +kernel⟩ rfl rfl (fun q hq => by cases hq; rfl) ⟨by decide, by decide⟩ (fun ad => by rw [show (z_ftag 6 3) = 2 from rfl, z_rfp (x := 27) (by decide)]; exact ⟨rfl, rfl⟩) rfl ?_
  refine z_R_mu (μ1 := z_st _ 23 3 27) rfl ?_
  have fz8 := z_fz_st (i := 3) (v := 27) fz7 (show ((23 : Int) ≤ 27) by decide)
  refine z_aload_n dX6_init_36 rfl ?_
  refine z_bipush dX6_init_37 (by decide) ?_
  refine z_newI (N := 27) (n := 30) dX6_init_39 zq_168 (by decide +kernel) (by decide) (by decide) (by decide) (z_fitl (by decide)) (z_fits (by decide)) (z_fzi fz8) ?_
  have fz9 := z_fz_up fz8 (show 27 ≤ 28 by decide)
  refine z_R_ref (x := ((27 : Nat) : Int) + 1) (y := 28) rfl ?_
  refine z_putF (t := 2) dX6_init_41 zf_X6_24 ⟨by decide, by decide, by decide +kernel⟩ rfl rfl (fun q hq => by cases hq; rfl) ⟨by decide, by decide⟩ (fun ad => by rw [show (z_ftag 6 4) = 2 from rfl, z_rfp (x := 28) (by decide)]; exact ⟨rfl, rfl⟩) rfl ?_
  refine z_R_mu (μ1 := z_st _ 23 4 28) rfl ?_
  have fz10 := z_fz_st (i := 4) (v := 28) fz9 (show ((23 : Int) ≤ 28) by decide)
  refine z_aload_n dX6_init_44 rfl ?_
  refine z_iconst dX6_init_45 ⟨by decide, by decide⟩ ?_
  refine z_putf (t := 0) dX6_init_46 zf_X6_27 ⟨by decide, by decide, by decide +kernel⟩ rfl ⟨by decide, by decide⟩ (fun _ => ⟨rfl, rfl⟩) (fun q => by cases q) ?_
  refine z_R_mu (μ1 := z_st _ 23 5 0) rfl ?_
  have fz11 := z_fz_st (i := 5) (v := 0) fz10 (show ((23 : Int) ≤ 28) by decide)
  refine z_aload_n dX6_init_49 rfl ?_
  refine z_iconst dX6_init_50 ⟨by decide, by decide⟩ ?_
  refine z_putf (t := 0) dX6_init_51 zf_X6_31 ⟨by decide, by decide, by decide +kernel⟩ rfl ⟨by decide, by decide⟩ (fun _ => ⟨rfl, rfl⟩) (fun q => by cases q) ?_
  refine z_R_mu (μ1 := z_st _ 23 6 0) rfl ?_
  have fz12 := z_fz_st (i := 6) (v := 0) fz11 (show ((23 : Int) ≤ 28) by decide)
  exact z_return dX6_init_54 rfl rfl h
def R_29 (μ : z_Mem) : z_Mem := (z_st (z_st (z_st (z_st (z_st (z_st (z_st μ 29 0 0) 29 1 (-1)) 29 2 (-1)) 29 3 0) 29 4 30) 29 5 6) 29 6 23)
theorem R_29_fz {μ : z_Mem} (hz : z_fz μ 29) : z_fz (R_29 μ) 30 := by
  have fz0 := hz
  have fz1 := z_fz_st (i := 0) (v := 0) fz0 (show ((29 : Int) ≤ 29) by decide)
  have fz2 := z_fz_st (i := 1) (v := (-1)) fz1 (show ((29 : Int) ≤ 29) by decide)
  have fz3 := z_fz_st (i := 2) (v := (-1)) fz2 (show ((29 : Int) ≤ 29) by decide)
  have fz4 := z_fz_st (i := 3) (v := 0) fz3 (show ((29 : Int) ≤ 29) by decide)
  have fz5 := z_fz_up fz4 (show 29 ≤ 30 by decide)
  have fz6 := z_fz_st (i := 4) (v := 30) fz5 (show ((29 : Int) ≤ 30) by decide)
  have fz7 := z_fz_st (i := 5) (v := 6) fz6 (show ((29 : Int) ≤ 30) by decide)
  have fz8 := z_fz_st (i := 6) (v := 23) fz7 (show ((29 : Int) ≤ 30) by decide)
  exact fz8
set_option maxRecDepth 20000 in
set_option maxHeartbeats 4000000 in
theorem I_29 {μ : z_Mem} {d : Nat} {Q : Option z_V → z_Mem → Prop} (hz : z_fz μ 29) (h : Q none (R_29 μ)) : z_call m_X10_init [(2, 29), (2, 6), (2, 23)] (29, 30, false) μ (d + 1) Q := by
  show z_R m_X10_init 0 [some (2, 29), some (2, 6), some (2, 23)] [] (29, 30, false) μ (d + 1) Q
  have fz0 := hz
  refine z_aload_n dX10_init_0 rfl ?_
  refine z_objinit dX10_init_1 zq_327 zq_142 zq_143 (by decide) (by decide) ?_
  refine z_aload_n dX10_init_4 rfl ?_
  refine z_iconst dX10_init_5 ⟨by decide, by decide⟩ ?_
  refine z_putf (t := 0) dX10_init_6 zf_X10_9 ⟨by decide, by decide, by decide +kernel⟩ rfl ⟨by decide, by decide⟩ (fun _ => ⟨rfl, rfl⟩) (fun q => by cases q) ?_
  refine z_R_mu (μ1 := z_st _ 29 0 0) rfl ?_
  have fz1 := z_fz_st (i := 0) (v := 0) fz0 (show ((29 : Int) ≤ 29) by decide)
  refine z_aload_n dX10_init_9 rfl ?_
  refine z_iconst dX10_init_10 ⟨by decide, by decide⟩ ?_
  refine z_putf (t := 0) dX10_init_11 zf_X10_15 ⟨by decide, by decide, by decide +kernel⟩ rfl ⟨by decide, by decide⟩ (fun _ => ⟨rfl, rfl⟩) (fun q => by cases q) ?_
  refine z_R_mu (μ1 := z_st _ 29 1 (-1)) rfl ?_
  have fz2 := z_fz_st (i := 1) (v := (-1)) fz1 (show ((29 : Int) ≤ 29) by decide)
  refine z_aload_n dX10_init_14 rfl ?_
  refine z_iconst dX10_init_15 ⟨by decide, by decide⟩ ?_
  refine z_putf (t := 0) dX10_init_16 zf_X10_19 ⟨by decide, by decide, by decide +kernel⟩ rfl ⟨by decide, by decide⟩ (fun _ => ⟨rfl, rfl⟩) (fun q => by cases q) ?_
  refine z_R_mu (μ1 := z_st _ 29 2 (-1)) rfl ?_
  have fz3 := z_fz_st (i := 2) (v := (-1)) fz2 (show ((29 : Int) ≤ 29) by decide)
  refine z_aload_n dX10_init_19 rfl ?_
  refine z_iconst dX10_init_20 ⟨by decide, by decide⟩ ?_
  refine z_putf (t := 0) dX10_init_21 zf_X10_22 ⟨by decide, by decide, by decide +kernel⟩ rfl ⟨by decide, by decide⟩ (fun _ => ⟨rfl, rfl⟩) (fun q => by cases q) ?_
  refine z_R_mu (μ1 := z_st _ 29 3 0) rfl ?_
  have fz4 := z_fz_st (i := 3) (v := 0) fz3 (show ((29 : Int) ≤ 29) by decide)
  refine z_aload_n dX10_init_24 rfl ?_
  refine z_bipush dX10_init_25 (by decide) ?_
  refine z_newJ (N := 29) (n := 64) dX10_init_27 zq_354 (by decide +kernel) (by decide) (by decide) (by decide) (z_fitl (by decide)) (z_fits (by decide)) (z_fzi fz4) ?_
  have fz5 := z_fz_up fz4 (show 29 ≤ 30 by decide)
  refine z_R_ref (x := ((29 : Nat) : Int) + 1) (y := 30) rfl ?_
  refine z_putF (t := 2) dX10_init_29 zf_X10_25 ⟨by decide, by decide, by decide +kernel⟩ rfl rfl (fun q hq => by cases hq; rfl) ⟨by decide, by decide⟩ (fun ad => by rw [show (z_ftag 10 4) = 2 from rfl, z_rfp (x := 30) (by decide)]; exact ⟨rfl, rfl⟩) rfl ?_
  refine z_R_mu (μ1 := z_st _ 29 4 30) rfl ?_
  have fz6 := z_fz_st (i := 4) (v := 30) fz5 (show ((29 : Int) ≤ 30) by decide)
  refine z_aload_n dX10_init_32 rfl ?_
  refine z_aload_n dX10_init_33 rfl ?_
  refine z_putF (t := 2) dX10_init_34 zf_X10_29 ⟨by decide, by decide, by decide +kernel⟩ rfl rfl (fun q hq => by cases hq; rfl) ⟨by decide, by decide⟩ (fun ad => by rw [show (z_ftag 10 5) = 2 from rfl, z_rfp (x := 6) (by decide)]; exact ⟨rfl, rfl⟩) rfl ?_
  refine z_R_mu (μ1 := z_st _ 29 5 6) rfl ?_
  have fz7 := z_fz_st (i := 5) (v := 6) fz6 (show ((29 : Int) ≤ 30) by decide)
  refine z_aload_n dX10_init_37 rfl ?_
  refine z_aload_n dX10_init_38 rfl ?_
  refine z_putF (t := 2) dX10_init_39 zf_X10_33 ⟨by decide, by decide, by decide +kernel⟩ rfl rfl (fun q hq => by cases hq; rfl) ⟨by decide, by decide⟩ (fun ad => by rw [show (z_ftag 10 6) = 2 from rfl, z_rfp (x := 23) (by decide)]; exact ⟨rfl, rfl⟩) rfl ?_
  refine z_R_mu (μ1 := z_st _ 29 6 23) rfl ?_
  have fz8 := z_fz_st (i := 6) (v := 23) fz7 (show ((29 : Int) ≤ 30) by decide)
  exact z_return dX10_init_42 rfl rfl h
def R_32 (μ : z_Mem) : z_Mem := (z_st (z_st (z_st (z_st (z_st (z_st (z_st μ 32 0 33) 32 1 34) 32 2 35) 32 3 36) 32 4 37) 32 5 0) 32 6 0)
theorem R_32_fz {μ : z_Mem} (hz : z_fz μ 32) : z_fz (R_32 μ) 37 := by
  have fz0 := hz
  have fz1 := z_fz_up fz0 (show 32 ≤ 33 by decide)
  have fz2 := z_fz_st (i := 0) (v := 33) fz1 (show ((32 : Int) ≤ 33) by decide)
  have fz3 := z_fz_up fz2 (show 33 ≤ 34 by decide)
  have fz4 := z_fz_st (i := 1) (v := 34) fz3 (show ((32 : Int) ≤ 34) by decide)
  have fz5 := z_fz_up fz4 (show 34 ≤ 35 by decide)
  have fz6 := z_fz_st (i := 2) (v := 35) fz5 (show ((32 : Int) ≤ 35) by decide)
  have fz7 := z_fz_up fz6 (show 35 ≤ 36 by decide)
  have fz8 := z_fz_st (i := 3) (v := 36) fz7 (show ((32 : Int) ≤ 36) by decide)
  have fz9 := z_fz_up fz8 (show 36 ≤ 37 by decide)
  have fz10 := z_fz_st (i := 4) (v := 37) fz9 (show ((32 : Int) ≤ 37) by decide)
  have fz11 := z_fz_st (i := 5) (v := 0) fz10 (show ((32 : Int) ≤ 37) by decide)
  have fz12 := z_fz_st (i := 6) (v := 0) fz11 (show ((32 : Int) ≤ 37) by decide)
  exact fz12
set_option maxRecDepth 20000 in
set_option maxHeartbeats 4000000 in
theorem I_32 {μ : z_Mem} {d : Nat} {Q : Option z_V → z_Mem → Prop} (hz : z_fz μ 32) (h : Q none (R_32 μ)) : z_call m_X6_init [(2, 32)] (32, 37, false) μ (d + 1) Q := by
  show z_R m_X6_init 0 [some (2, 32)] [] (32, 37, false) μ (d + 1) Q
  have fz0 := hz
  refine z_aload_n dX6_init_0 rfl ?_
  refine z_objinit dX6_init_1 zq_284 zq_142 zq_143 (by decide) (by decide) ?_
  refine z_aload_n dX6_init_4 rfl ?_
  refine z_bipush dX6_init_5 (by decide) ?_
  refine z_newI (N := 32) (n := 30) dX6_init_7 zq_168 (by decide +kernel) (by decide) (by decide) (by decide) (z_fitl (by decide)) (z_fits (by decide)) (z_fzi fz0) ?_
  have fz1 := z_fz_up fz0 (show 32 ≤ 33 by decide)
  refine z_R_ref (x := ((32 : Nat) : Int) + 1) (y := 33) rfl ?_
  refine z_putF (t := 2) dX6_init_9 zf_X6_9 ⟨by decide, by decide, by decide +kernel⟩ rfl rfl (fun q hq => by cases hq; rfl) ⟨by decide, by decide⟩ (fun ad => by rw [show (z_ftag 6 0) = 2 from rfl, z_rfp (x := 33) (by decide)]; exact ⟨rfl, rfl⟩) rfl ?_
  refine z_R_mu (μ1 := z_st _ 32 0 33) rfl ?_
  have fz2 := z_fz_st (i := 0) (v := 33) fz1 (show ((32 : Int) ≤ 33) by decide)
  refine z_aload_n dX6_init_12 rfl ?_
  refine z_bipush dX6_init_13 (by decide) ?_
  refine z_newI (N := 33) (n := 30) dX6_init_15 zq_168 (by decide +kernel) (by decide) (by decide) (by decide) (z_fitl (by decide)) (z_fits (by decide)) (z_fzi fz2) ?_
  have fz3 := z_fz_up fz2 (show 33 ≤ 34 by decide)
  refine z_R_ref (x := ((33 : Nat) : Int) + 1) (y := 34) rfl ?_
  refine z_putF (t := 2) dX6_init_17 zf_X6_15 ⟨by decide, by decide, by decide +kernel⟩ rfl rfl (fun q hq => by cases hq; rfl) ⟨by decide, by decide⟩ (fun ad => by rw [show (z_ftag 6 1) = 2 from rfl, z_rfp (x := 34) (by decide)]; exact ⟨rfl, rfl⟩) rfl ?_
  refine z_R_mu (μ1 := z_st _ 32 1 34) rfl ?_
  have fz4 := z_fz_st (i := 1) (v := 34) fz3 (show ((32 : Int) ≤ 34) by decide)
  refine z_aload_n dX6_init_20 rfl ?_
  refine z_bipush dX6_init_21 (by decide) ?_
  refine z_newI (N := 34) (n := 30) dX6_init_23 zq_168 (by decide +kernel) (by decide) (by decide) (by decide) (z_fitl (by decide)) (z_fits (by decide)) (z_fzi fz4) ?_
  have fz5 := z_fz_up fz4 (show 34 ≤ 35 by decide)
  refine z_R_ref (x := ((34 : Nat) : Int) + 1) (y := 35) rfl ?_
  refine z_putF (t := 2) dX6_init_25 zf_X6_18 ⟨by decide, by decide, by decide +kernel⟩ rfl rfl (fun q hq => by cases hq; rfl) ⟨by decide, by decide⟩ (fun ad => by rw [show (z_ftag 6 2) = 2 from rfl, z_rfp (x := 35) (by decide)]; exact ⟨rfl, rfl⟩) rfl ?_
  refine z_R_mu (μ1 := z_st _ 32 2 35) rfl ?_
  have fz6 := z_fz_st (i := 2) (v := 35) fz5 (show ((32 : Int) ≤ 35) by decide)
  refine z_aload_n dX6_init_28 rfl ?_
  refine z_bipush dX6_init_29 (by decide) ?_
  refine z_newI (N := 35) (n := 30) dX6_init_31 zq_168 (by decide +kernel) (by decide) (by decide) (by decide) (z_fitl (by decide)) (z_fits (by decide)) (z_fzi fz6) ?_
  have fz7 := z_fz_up fz6 (show 35 ≤ 36 by decide)
  refine z_R_ref (x := ((35 : Nat) : Int) + 1) (y := 36) rfl ?_
  refine z_putF (t := 2) dX6_init_33 zf_X6_21 ⟨by decide, by decide, by decide +kernel⟩ rfl rfl (fun q hq => by cases hq; rfl) ⟨by decide, by decide⟩ (fun ad => by rw [show (z_ftag 6 3) = 2 from rfl, z_rfp (x := 36) (by decide)]; exact ⟨rfl, rfl⟩) rfl ?_
  refine z_R_mu (μ1 := z_st _ 32 3 36) rfl ?_
  have fz8 := z_fz_st (i := 3) (v := 36) fz7 (show ((32 : Int) ≤ 36) by decide)
  refine z_aload_n dX6_init_36 rfl ?_
  refine z_bipush dX6_init_37 (by decide) ?_
  refine z_newI (N := 36) (n := 30) dX6_init_39 zq_168 (by decide +kernel) (by decide) (by decide) (by decide) (z_fitl (by decide)) (z_fits (by decide)) (z_fzi fz8) ?_
  have fz9 := z_fz_up fz8 (show 36 ≤ 37 by decide)
  refine z_R_ref (x := ((36 : Nat) : Int) + 1) (y := 37) rfl ?_
  refine z_putF (t := 2) dX6_init_41 zf_X6_24 ⟨by decide, by decide, by decide +kernel⟩ rfl rfl (fun q hq => by cases hq; rfl) ⟨by decide, by decide⟩ (fun ad => by rw [show (z_ftag 6 4) = 2 from rfl, z_rfp (x := 37) (by decide)]; exact ⟨rfl, rfl⟩) rfl ?_
  refine z_R_mu (μ1 := z_st _ 32 4 37) rfl ?_
  have fz10 := z_fz_st (i := 4) (v := 37) fz9 (show ((32 : Int) ≤ 37) by decide)
  refine z_aload_n dX6_init_44 rfl ?_
  refine z_iconst dX6_init_45 ⟨by decide, by decide⟩ ?_
  refine z_putf (t := 0) dX6_init_46 zf_X6_27 ⟨by decide, by decide, by decide +kernel⟩ rfl ⟨by decide, by decide⟩ (fun _ => ⟨rfl, rfl⟩) (fun q => by cases q) ?_
  refine z_R_mu (μ1 := z_st _ 32 5 0) rfl ?_
  have fz11 := z_fz_st (i := 5) (v := 0) fz10 (show ((32 : Int) ≤ 37) by decide)
  refine z_aload_n dX6_init_49 rfl ?_
  refine z_iconst dX6_init_50 ⟨by decide, by decide⟩ ?_
  refine z_putf (t := 0) dX6_init_51 zf_X6_31 ⟨by decide, by decide, by decide +kernel⟩ rfl ⟨by decide, by decide⟩ (fun _ => ⟨rfl, rfl⟩) (fun q => by cases q) ?_
  refine z_R_mu (μ1 := z_st _ 32 6 0) rfl ?_
  have fz12 := z_fz_st (i := 6) (v := 0) fz11 (show ((32 : Int) ≤ 37) by decide)
  exact z_return dX6_init_54 rfl rfl h
def R_31 (μ : z_Mem) : z_Mem := (z_st (z_st (z_st (z_st (R_32 (z_st μ 31 0 0)) 31 1 32) 31 2 38) 31 3 0) 31 4 0)
theorem R_31_fz {μ : z_Mem} (hz : z_fz μ 31) : z_fz (R_31 μ) 38 := by
  have fz0 := hz
  have fz1 := z_fz_st (i := 0) (v := 0) fz0 (show ((31 : Int) ≤ 31) by decide)
  have fz2 := z_fz_up fz1 (show 31 ≤ 32 by decide)
  have fz3 := R_32_fz fz2
  have fz4 := z_fz_st (i := 1) (v := 32) fz3 (show ((31 : Int) ≤ 37) by decide)
  have fz5 := z_fz_up fz4 (show 37 ≤ 38 by decide)
  have fz6 := z_fz_st (i := 2) (v := 38) fz5 (show ((31 : Int) ≤ 38) by decide)
  have fz7 := z_fz_st (i := 3) (v := 0) fz6 (show ((31 : Int) ≤ 38) by decide)
  have fz8 := z_fz_st (i := 4) (v := 0) fz7 (show ((31 : Int) ≤ 38) by decide)
  exact fz8
set_option maxRecDepth 20000 in
set_option maxHeartbeats 4000000 in
theorem I_31 {μ : z_Mem} {d : Nat} {Q : Option z_V → z_Mem → Prop} (hz : z_fz μ 31) (h : Q none (R_31 μ)) : z_call m_X5_init [(2, 31)] (31, 38, false) μ (d + 2) Q := by
  show z_R m_X5_init 0 [some (2, 31)] [] (31, 38, false) μ (d + 2) Q
  have fz0 := hz
  refine z_aload_n dX5_init_0 rfl ?_
  refine z_objinit dX5_init_1 zq_360 zq_142 zq_143 (by decide) (by decide) ?_
  refine z_aload_n dX5_init_4 rfl ?_
  refine z_lconst0 dX5_init_5 ?_
  refine z_putf (t := 1) dX5_init_6 zf_X5_9 ⟨by decide, by decide, by decide +kernel⟩ rfl ⟨by decide, by decide⟩ (fun _ => ⟨rfl, rfl⟩) (fun q => by cases q) ?_
  refine z_R_mu (μ1 := z_st _ 31 0 0) rfl ?_
  have fz1 := z_fz_st (i := 0) (v := 0) fz0 (show ((31 : Int) ≤ 31) by decide)
  refine z_aload_n dX5_init_9 rfl ?_
  refine z_new (n := 0) (N := 31) (kc := 6) (q := (RX6, TX6, 7)) dX5_init_10 zq_361 zq_280 zq_124 rfl tyX6 tyX6_ok (by decide +kernel) (by decide +kernel) (by decide) (z_fitl (by decide)) (z_fits (by decide)) (z_fzi fz1) ?_
  have fz2 := z_fz_up fz1 (show 31 ≤ 32 by decide)
  refine z_R_ref (x := ((31 : Nat) : Int) + 1) (y := 32) rfl ?_
  refine z_dup dX5_init_13 rfl ?_
  refine z_invIN (o := 32) (as := []) (rest := [(2, 32), (2, 31)]) 37 dX5_init_14 zm_X6_init zq_362 zq_282 rfl rfl (by decide) rfl rfl (by decide) (by decide) (by decide) (by decide) (Or.inr ⟨z_fitl (by decide), z_fits (by decide)⟩) (I_32 fz2 ?_)
  refine z_R_sk0 (sk1 := [(2, 32), (2, 31)]) rfl ?_
  have fz3 := R_32_fz fz2
  refine z_putF (t := 2) dX5_init_17 zf_X5_18 ⟨by decide, by decide, by decide +kernel⟩ rfl rfl (fun q hq => by cases hq; rfl) ⟨by decide, by decide⟩ (fun ad => by rw [show (z_ftag 5 1) = 2 from rfl, z_rfp (x := 32) (by decide)]; exact ⟨rfl, rfl⟩) rfl ?_
  refine z_R_mu (μ1 := z_st _ 31 1 32) rfl ?_
  have fz4 := z_fz_st (i := 1) (v := 32) fz3 (show ((31 : Int) ≤ 37) by decide)
  refine z_aload_n dX5_init_20 rfl ?_
  refine z_bipush dX5_init_21 (by decide) ?_
  refine z_newI (N := 37) (n := 60) dX5_init_23 zq_168 (by decide +kernel) (by decide) (by decide) (by decide) (z_fitl (by decide)) (z_fits (by decide)) (z_fzi fz4) ?_
  have fz5 := z_fz_up fz4 (show 37 ≤ 38 by decide)
  refine z_R_ref (x := ((37 : Nat) : Int) + 1) (y := 38) rfl ?_
  refine z_putF (t := 2) dX5_init_25 zf_X5_22 ⟨by decide, by decide, by decide +kernel⟩ rfl rfl (fun q hq => by cases hq; rfl) ⟨by decide, by decide⟩ (fun ad => by rw [show (z_ftag 5 2) = 2 from rfl, z_rfp (x := 38) (by decide)]; exact ⟨rfl, rfl⟩) rfl ?_
  refine z_R_mu (μ1 := z_st _ 31 2 38) rfl ?_
  have fz6 := z_fz_st (i := 2) (v := 38) fz5 (show ((31 : Int) ≤ 38) by decide)
  refine z_aload_n dX5_init_28 rfl ?_
  refine z_iconst dX5_init_29 ⟨by decide, by decide⟩ ?_
  refine z_putf (t := 0) dX5_init_30 zf_X5_26 ⟨by decide, by decide, by decide +kernel⟩ rfl ⟨by decide, by decide⟩ (fun _ => ⟨rfl, rfl⟩) (fun q => by cases q) ?_
  refine z_R_mu (μ1 := z_st _ 31 3 0) rfl ?_
  have fz7 := z_fz_st (i := 3) (v := 0) fz6 (show ((31 : Int) ≤ 38) by decide)
  refine z_aload_n dX5_init_33 rfl ?_
  refine z_lconst0 dX5_init_34 ?_
  refine z_putf (t := 1) dX5_init_35 zf_X5_30 ⟨by decide, by decide, by decide +kernel⟩ rfl ⟨by decide, by decide⟩ (fun _ => ⟨rfl, rfl⟩) (fun q => by cases q) ?_
  refine z_R_mu (μ1 := z_st _ 31 4 0) rfl ?_
  have fz8 := z_fz_st (i := 4) (v := 0) fz7 (show ((31 : Int) ≤ 38) by decide)
  exact z_return dX5_init_38 rfl rfl h
def R_39 (μ : z_Mem) : z_Mem := (z_st (z_st (z_st (z_st (z_st (z_st μ 39 0 0) 39 1 0) 39 2 40) 39 3 41) 39 4 42) 39 5 43)
theorem R_39_fz {μ : z_Mem} (hz : z_fz μ 39) : z_fz (R_39 μ) 43 := by
  have fz0 := hz
  have fz1 := z_fz_st (i := 0) (v := 0) fz0 (show ((39 : Int) ≤ 39) by decide)
  have fz2 := z_fz_st (i := 1) (v := 0) fz1 (show ((39 : Int) ≤ 39) by decide)
  have fz3 := z_fz_up fz2 (show 39 ≤ 40 by decide)
  have fz4 := z_fz_st (i := 2) (v := 40) fz3 (show ((39 : Int) ≤ 40) by decide)
  have fz5 := z_fz_up fz4 (show 40 ≤ 41 by decide)
  have fz6 := z_fz_st (i := 3) (v := 41) fz5 (show ((39 : Int) ≤ 41) by decide)
  have fz7 := z_fz_up fz6 (show 41 ≤ 42 by decide)
  have fz8 := z_fz_st (i := 4) (v := 42) fz7 (show ((39 : Int) ≤ 42) by decide)
  have fz9 := z_fz_up fz8 (show 42 ≤ 43 by decide)
  have fz10 := z_fz_st (i := 5) (v := 43) fz9 (show ((39 : Int) ≤ 43) by decide)
  exact fz10
set_option maxRecDepth 20000 in
set_option maxHeartbeats 4000000 in
theorem I_39 {μ : z_Mem} {d : Nat} {Q : Option z_V → z_Mem → Prop} (hz : z_fz μ 39) (h : Q none (R_39 μ)) : z_call m_X0_init [(2, 39)] (39, 43, false) μ (d + 1) Q := by
  show z_R m_X0_init 0 [some (2, 39)] [] (39, 43, false) μ (d + 1) Q
  have fz0 := hz
  refine z_aload_n dX0_init_0 rfl ?_
  refine z_objinit dX0_init_1 zq_385 zq_142 zq_143 (by decide) (by decide) ?_
  refine z_aload_n dX0_init_4 rfl ?_
  refine z_iconst dX0_init_5 ⟨by decide, by decide⟩ ?_
  refine z_putf (t := 0) dX0_init_6 zf_X0_9 ⟨by decide, by decide, by decide +kernel⟩ rfl ⟨by decide, by decide⟩ (fun _ => ⟨rfl, rfl⟩) (fun q => by cases q) ?_
  refine z_R_mu (μ1 := z_st _ 39 0 0) rfl ?_
  have fz1 := z_fz_st (i := 0) (v := 0) fz0 (show ((39 : Int) ≤ 39) by decide)
  refine z_aload_n dX0_init_9 rfl ?_
  refine z_iconst dX0_init_10 ⟨by decide, by decide⟩ ?_
  refine z_putf (t := 0) dX0_init_11 zf_X0_15 ⟨by decide, by decide, by decide +kernel⟩ rfl ⟨by decide, by decide⟩ (fun _ => ⟨rfl, rfl⟩) (fun q => by cases q) ?_
  refine z_R_mu (μ1 := z_st _ 39 1 0) rfl ?_
  have fz2 := z_fz_st (i := 1) (v := 0) fz1 (show ((39 : Int) ≤ 39) by decide)
  refine z_aload_n dX0_init_14 rfl ?_
  refine z_bipush dX0_init_15 (by decide) ?_
  refine z_newI (N := 39) (n := 62) dX0_init_17 zq_168 (by decide +kernel) (by decide) (by decide) (by decide) (z_fitl (by decide)) (z_fits (by decide)) (z_fzi fz2) ?_
  have fz3 := z_fz_up fz2 (show 39 ≤ 40 by decide)
  refine z_R_ref (x := ((39 : Nat) : Int) + 1) (y := 40) rfl ?_
  refine z_putF (t := 2) dX0_init_19 zf_X0_19 ⟨by decide, by decide, by decide +kernel⟩ rfl rfl (fun q hq => by cases hq; rfl) ⟨by decide, by decide⟩ (fun ad => by rw [show (z_ftag 0 2) = 2 from rfl, z_rfp (x := 40) (by decide)]; exact ⟨rfl, rfl⟩) rfl ?_
  refine z_R_mu (μ1 := z_st _ 39 2 40) rfl ?_
  have fz4 := z_fz_st (i := 2) (v := 40) fz3 (show ((39 : Int) ≤ 40) by decide)
  refine z_aload_n dX0_init_22 rfl ?_
  refine z_bipush dX0_init_23 (by decide) ?_
  refine z_newI (N := 40) (n := 62) dX0_init_25 zq_168 (by decide +kernel) (by decide) (by decide) (by decide) (z_fitl (by decide)) (z_fits (by decide)) (z_fzi fz4) ?_
  have fz5 := z_fz_up fz4 (show 40 ≤ 41 by decide)
  refine z_R_ref (x := ((40 : Nat) : Int) + 1) (y := 41) rfl ?_
  refine z_putF (t := 2) dX0_init_27 zf_X0_23 ⟨by decide, by decide, by decide +kernel⟩ rfl rfl (fun q hq => by cases hq; rfl) ⟨by decide, by decide⟩ (fun ad => by rw [show (z_ftag 0 3) = 2 from rfl, z_rfp (x := 41) (by decide)]; exact ⟨rfl, rfl⟩) rfl ?_
  refine z_R_mu (μ1 := z_st _ 39 3 41) rfl ?_
  have fz6 := z_fz_st (i := 3) (v := 41) fz5 (show ((39 : Int) ≤ 41) by decide)
  refine z_aload_n dX0_init_30 rfl ?_
  refine z_bipush dX0_init_31 (by decide) ?_
  refine z_newI (N := 41) (n := 62) dX0_init_33 zq_168 (by decide +kernel) (by decide) (by decide) (by decide) (z_fitl (by decide)) (z_fits (by decide)) (z_fzi fz6) ?_
  have fz7 := z_fz_up fz6 (show 41 ≤ 42 by decide)
  refine z_R_ref (x := ((41 : Nat) : Int) + 1) (y := 42) rfl ?_
  refine z_putF (t := 2) dX0_init_35 zf_X0_26 ⟨by decide, by decide, by decide +kernel⟩ rfl rfl (fun q hq => by cases hq; rfl) ⟨by decide, by decide⟩ (fun ad => by rw [show (z_ftag 0 4) = 2 from rfl, z_rfp (x := 42) (by decide)]; exact ⟨rfl, rfl⟩) rfl ?_
  refine z_R_mu (μ1 := z_st _ 39 4 42) rfl ?_
  have fz8 := z_fz_st (i := 4) (v := 42) fz7 (show ((39 : Int) ≤ 42) by decide)
  refine z_aload_n dX0_init_38 rfl ?_
  refine z_bipush dX0_init_39 (by decide) ?_
  refine z_newI (N := 42) (n := 120) dX0_init_41 zq_168 (by decide +kernel) (by decide) (by decide) (by decide) (z_fitl (by decide)) (z_fits (by decide)) (z_fzi fz8) ?_
  have fz9 := z_fz_up fz8 (show 42 ≤ 43 by decide)
  refine z_R_ref (x := ((42 : Nat) : Int) + 1) (y := 43) rfl ?_
  refine z_putF (t := 2) dX0_init_43 zf_X0_29 ⟨by decide, by decide, by decide +kernel⟩ rfl rfl (fun q hq => by cases hq; rfl) ⟨by decide, by decide⟩ (fun ad => by rw [show (z_ftag 0 5) = 2 from rfl, z_rfp (x := 43) (by decide)]; exact ⟨rfl, rfl⟩) rfl ?_
  refine z_R_mu (μ1 := z_st _ 39 5 43) rfl ?_
  have fz10 := z_fz_st (i := 5) (v := 43) fz9 (show ((39 : Int) ≤ 43) by decide)
  exact z_return dX0_init_46 rfl rfl h
def R_44 (μ : z_Mem) : z_Mem := (z_st (z_mm (z_st (z_mm (z_st (z_st (z_st (z_st (z_st (z_st (z_st μ 44 0 0) 44 1 0) 44 2 45) 44 3 0) 44 4 46) 44 5 47) 44 6 48) 48 12) 44 7 49) 61 12) 44 8 62)
theorem R_44_fz {μ : z_Mem} (hz : z_fz μ 44) : z_fz (R_44 μ) 74 := by
  have fz0 := hz
  have fz1 := z_fz_st (i := 0) (v := 0) fz0 (show ((44 : Int) ≤ 44) by decide)
  have fz2 := z_fz_st (i := 1) (v := 0) fz1 (show ((44 : Int) ≤ 44) by decide)
  have fz3 := z_fz_up fz2 (show 44 ≤ 45 by decide)
  have fz4 := z_fz_st (i := 2) (v := 45) fz3 (show ((44 : Int) ≤ 45) by decide)
  have fz5 := z_fz_st (i := 3) (v := 0) fz4 (show ((44 : Int) ≤ 45) by decide)
  have fz6 := z_fz_up fz5 (show 45 ≤ 46 by decide)
  have fz7 := z_fz_st (i := 4) (v := 46) fz6 (show ((44 : Int) ≤ 46) by decide)
  have fz8 := z_fz_up fz7 (show 46 ≤ 47 by decide)
  have fz9 := z_fz_st (i := 5) (v := 47) fz8 (show ((44 : Int) ≤ 47) by decide)
  have fz10 := z_fz_up fz9 (show 47 ≤ 48 by decide)
  have fz11 := z_fz_st (i := 6) (v := 48) fz10 (show ((44 : Int) ≤ 48) by decide)
  have fz12 := z_fz_mm (n := 12) fz11
  have fz13 := z_fz_st (i := 7) (v := 49) fz12 (show ((44 : Int) ≤ 61) by decide)
  have fz14 := z_fz_mm (n := 12) fz13
  have fz15 := z_fz_st (i := 8) (v := 62) fz14 (show ((44 : Int) ≤ 74) by decide)
  exact fz15
set_option maxRecDepth 20000 in
set_option maxHeartbeats 4000000 in
theorem I_44 {μ : z_Mem} {d : Nat} {Q : Option z_V → z_Mem → Prop} (hz : z_fz μ 44) (h : Q none (R_44 μ)) : z_call m_X1_init [(2, 44)] (44, 74, false) μ (d + 1) Q := by
  show z_R m_X1_init 0 [some (2, 44)] [] (44, 74, false) μ (d + 1) Q
  have fz0 := hz
  refine z_aload_n dX1_init_0 rfl ?_
  refine z_objinit dX1_init_1 zq_418 zq_142 zq_143 (by decide) (by decide) ?_
  refine z_aload_n dX1_init_4 rfl ?_
  refine z_iconst dX1_init_5 ⟨by decide, by decide⟩ ?_
  refine z_putf (t := 0) dX1_init_6 zf_X1_9 ⟨by decide, by decide, by decide +kernel⟩ rfl ⟨by decide, by decide⟩ (fun _ => ⟨rfl, rfl⟩) (fun q => by cases q) ?_
  refine z_R_mu (μ1 := z_st _ 44 0 0) rfl ?_
  have fz1 := z_fz_st (i := 0) (v := 0) fz0 (show ((44 : Int) ≤ 44) by decide)
  refine z_aload_n dX1_init_9 rfl ?_
  refine z_iconst dX1_init_10 ⟨by decide, by decide⟩ ?_
  refine z_putf (t := 0) dX1_init_11 zf_X1_15 ⟨by decide, by decide, by decide +kernel⟩ rfl ⟨by decide, by decide⟩ (fun _ => ⟨rfl, rfl⟩) (fun q => by cases q) ?_
  refine z_R_mu (μ1 := z_st _ 44 1 0) rfl ?_
  have fz2 := z_fz_st (i := 1) (v := 0) fz1 (show ((44 : Int) ≤ 44) by decide)
  refine z_aload_n dX1_init_14 rfl ?_
  refine z_bipush dX1_init_15 (by decide) ?_
  refine z_newI (N := 44) (n := 22) dX1_init_17 zq_168 (by decide +kernel) (by decide) (by decide) (by decide) (z_fitl (by decide)) (z_fits (by decide)) (z_fzi fz2) ?_
  have fz3 := z_fz_up fz2 (show 44 ≤ 45 by decide)
  refine z_R_ref (x := ((44 : Nat) : Int) + 1) (y := 45) rfl ?_
  refine z_putF (t := 2) dX1_init_19 zf_X1_19 ⟨by decide, by decide, by decide +kernel⟩ rfl rfl (fun q hq => by cases hq; rfl) ⟨by decide, by decide⟩ (fun ad => by rw [show (z_ftag 1 2) = 2 from rfl, z_rfp (x := 45) (by decide)]; exact ⟨rfl, rfl⟩) rfl ?_
  refine z_R_mu (μ1 := z_st _ 44 2 45) rfl ?_
  have fz4 := z_fz_st (i := 2) (v := 45) fz3 (show ((44 : Int) ≤ 45) by decide)
  refine z_aload_n dX1_init_22 rfl ?_
  refine z_iconst dX1_init_23 ⟨by decide, by decide⟩ ?_
  refine z_putf (t := 0) dX1_init_24 zf_X1_23 ⟨by decide, by decide, by decide +kernel⟩ rfl ⟨by decide, by decide⟩ (fun _ => ⟨rfl, rfl⟩) (fun q => by cases q) ?_
  refine z_R_mu (μ1 := z_st _ 44 3 0) rfl ?_
  have fz5 := z_fz_st (i := 3) (v := 0) fz4 (show ((44 : Int) ≤ 45) by decide)
  refine z_aload_n dX1_init_27 rfl ?_
  refine z_bipush dX1_init_28 (by decide) ?_
  refine z_newI (N := 45) (n := 64) dX1_init_30 zq_168 (by decide +kernel) (by decide) (by decide) (by decide) (z_fitl (by decide)) (z_fits (by decide)) (z_fzi fz5) ?_
  have fz6 := z_fz_up fz5 (show 45 ≤ 46 by decide)
  refine z_R_ref (x := ((45 : Nat) : Int) + 1) (y := 46) rfl ?_
  refine z_putF (t := 2) dX1_init_32 zf_X1_26 ⟨by decide, by decide, by decide +kernel⟩ rfl rfl (fun q hq => by cases hq; rfl) ⟨by decide, by decide⟩ (fun ad => by rw [show (z_ftag 1 4) = 2 from rfl, z_rfp (x := 46) (by decide)]; exact ⟨rfl, rfl⟩) rfl ?_
  refine z_R_mu (μ1 := z_st _ 44 4 46) rfl ?_
  have fz7 := z_fz_st (i := 4) (v := 46) fz6 (show ((44 : Int) ≤ 46) by decide)
  refine z_aload_n dX1_init_35 rfl ?_
  refine z_bipush dX1_init_36 (by decide) ?_
  refine z_newI (N := 46) (n := 12) dX1_init_38 zq_168 (by decide +kernel) (by decide) (by decide) (by decide) (z_fitl (by decide)) (z_fits (by decide)) (z_fzi fz7) ?_
  have fz8 := z_fz_up fz7 (show 46 ≤ 47 by decide)
  refine z_R_ref (x := ((46 : Nat) : Int) + 1) (y := 47) rfl ?_
  refine z_putF (t := 2) dX1_init_40 zf_X1_29 ⟨by decide, by decide, by decide +kernel⟩ rfl rfl (fun q hq => by cases hq; rfl) ⟨by decide, by decide⟩ (fun ad => by rw [show (z_ftag 1 5) = 2 from rfl, z_rfp (x := 47) (by decide)]; exact ⟨rfl, rfl⟩) rfl ?_
  refine z_R_mu (μ1 := z_st _ 44 5 47) rfl ?_
  have fz9 := z_fz_st (i := 5) (v := 47) fz8 (show ((44 : Int) ≤ 47) by decide)
  refine z_aload_n dX1_init_43 rfl ?_
  refine z_bipush dX1_init_44 (by decide) ?_
  refine z_newI (N := 47) (n := 12) dX1_init_46 zq_168 (by decide +kernel) (by decide) (by decide) (by decide) (z_fitl (by decide)) (z_fits (by decide)) (z_fzi fz9) ?_
  have fz10 := z_fz_up fz9 (show 47 ≤ 48 by decide)
  refine z_R_ref (x := ((47 : Nat) : Int) + 1) (y := 48) rfl ?_
  refine z_putF (t := 2) dX1_init_48 zf_X1_32 ⟨by decide, by decide, by decide +kernel⟩ rfl rfl (fun q hq => by cases hq; rfl) ⟨by decide, by decide⟩ (fun ad => by rw [show (z_ftag 1 6) = 2 from rfl, z_rfp (x := 48) (by decide)]; exact ⟨rfl, rfl⟩) rfl ?_
  refine z_R_mu (μ1 := z_st _ 44 6 48) rfl ?_
  have fz11 := z_fz_st (i := 6) (v := 48) fz10 (show ((44 : Int) ≤ 48) by decide)
  refine z_aload_n dX1_init_51 rfl ?_
  refine z_bipush dX1_init_52 (by decide) ?_
  refine z_bipush dX1_init_54 (by decide) ?_
  refine z_multi (N := 48) (n := 12) (k := 22) dX1_init_56 zq_419 zq_420 zq_168 (by decide +kernel) (by decide +kernel) (by decide) (by decide) (by decide) (z_fitl (by decide)) (z_fits (by decide)) (z_fzo fz11) ?_
  have fz12 := z_fz_mm (n := 12) fz11
  refine z_R_w (w1 := (61, 74, false)) rfl ?_
  refine z_R_ref (x := ((48 : Nat) : Int) + 1) (y := 49) rfl ?_
  refine z_putF (t := 2) dX1_init_60 zf_X1_37 ⟨by decide, by decide, by decide +kernel⟩ rfl rfl (fun q hq => by cases hq; rfl) ⟨by decide, by decide⟩ (fun ad => by rw [show (z_ftag 1 7) = 2 from rfl, z_rfp (x := 49) (by decide)]; exact ⟨rfl, rfl⟩) rfl ?_
  refine z_R_mu (μ1 := z_st _ 44 7 49) rfl ?_
  have fz13 := z_fz_st (i := 7) (v := 49) fz12 (show ((44 : Int) ≤ 61) by decide)
  refine z_aload_n dX1_init_63 rfl ?_
  refine z_bipush dX1_init_64 (by decide) ?_
  refine z_bipush dX1_init_66 (by decide) ?_
  refine z_multi (N := 61) (n := 12) (k := 22) dX1_init_68 zq_419 zq_420 zq_168 (by decide +kernel) (by decide +kernel) (by decide) (by decide) (by decide) (z_fitl (by decide)) (z_fits (by decide)) (z_fzo fz13) ?_
  have fz14 := z_fz_mm (n := 12) fz13
  refine z_R_w (w1 := (74, 74, false)) rfl ?_
  refine z_R_ref (x := ((61 : Nat) : Int) + 1) (y := 62) rfl ?_
  refine z_putF (t := 2) dX1_init_72 zf_X1_40 ⟨by decide, by decide, by decide +kernel⟩ rfl rfl (fun q hq => by cases hq; rfl) ⟨by decide, by decide⟩ (fun ad => by rw [show (z_ftag 1 8) = 2 from rfl, z_rfp (x := 62) (by decide)]; exact ⟨rfl, rfl⟩) rfl ?_
  refine z_R_mu (μ1 := z_st _ 44 8 62) rfl ?_
  have fz15 := z_fz_st (i := 8) (v := 62) fz14 (show ((44 : Int) ≤ 74) by decide)
  exact z_return dX1_init_75 rfl rfl h
def R_75 (μ : z_Mem) : z_Mem := (z_st (z_st (z_st (z_st (z_st μ 75 0 0) 75 1 76) 75 2 77) 75 3 78) 75 4 79)
theorem R_75_fz {μ : z_Mem} (hz : z_fz μ 75) : z_fz (R_75 μ) 79 := by
  have fz0 := hz
  have fz1 := z_fz_st (i := 0) (v := 0) fz0 (show ((75 : Int) ≤ 75) by decide)
  have fz2 := z_fz_up fz1 (show 75 ≤ 76 by decide)
  have fz3 := z_fz_st (i := 1) (v := 76) fz2 (show ((75 : Int) ≤ 76) by decide)
  have fz4 := z_fz_up fz3 (show 76 ≤ 77 by decide)
  have fz5 := z_fz_st (i := 2) (v := 77) fz4 (show ((75 : Int) ≤ 77) by decide)
  have fz6 := z_fz_up fz5 (show 77 ≤ 78 by decide)
  have fz7 := z_fz_st (i := 3) (v := 78) fz6 (show ((75 : Int) ≤ 78) by decide)
  have fz8 := z_fz_up fz7 (show 78 ≤ 79 by decide)
  have fz9 := z_fz_st (i := 4) (v := 79) fz8 (show ((75 : Int) ≤ 79) by decide)
  exact fz9
set_option maxRecDepth 20000 in
set_option maxHeartbeats 4000000 in
theorem I_75 {μ : z_Mem} {d : Nat} {Q : Option z_V → z_Mem → Prop} (hz : z_fz μ 75) (h : Q none (R_75 μ)) : z_call m_X8_init [(2, 75)] (75, 79, false) μ (d + 1) Q := by
  show z_R m_X8_init 0 [some (2, 75)] [] (75, 79, false) μ (d + 1) Q
  have fz0 := hz
  refine z_aload_n dX8_init_0 rfl ?_
  refine z_objinit dX8_init_1 zq_457 zq_142 zq_143 (by decide) (by decide) ?_
  refine z_aload_n dX8_init_4 rfl ?_
  refine z_iconst dX8_init_5 ⟨by decide, by decide⟩ ?_
  refine z_putf (t := 0) dX8_init_6 zf_X8_9 ⟨by decide, by decide, by decide +kernel⟩ rfl ⟨by decide, by decide⟩ (fun _ => ⟨rfl, rfl⟩) (fun q => by cases q) ?_
  refine z_R_mu (μ1 := z_st _ 75 0 0) rfl ?_
  have fz1 := z_fz_st (i := 0) (v := 0) fz0 (show ((75 : Int) ≤ 75) by decide)
  refine z_aload_n dX8_init_9 rfl ?_
  refine z_bipush dX8_init_10 (by decide) ?_
  refine z_newI (N := 75) (n := 30) dX8_init_12 zq_168 (by decide +kernel) (by decide) (by decide) (by decide) (z_fitl (by decide)) (z_fits (by decide)) (z_fzi fz1) ?_
  have fz2 := z_fz_up fz1 (show 75 ≤ 76 by decide)
  refine z_R_ref (x := ((75 : Nat) : Int) + 1) (y := 76) rfl ?_
  refine z_putF (t := 2) dX8_init_14 zf_X8_15 ⟨by decide, by decide, by decide +kernel⟩ rfl rfl (fun q hq => by cases hq; rfl) ⟨by decide, by decide⟩ (fun ad => by rw [show (z_ftag 8 1) = 2 from rfl, z_rfp (x := 76) (by decide)]; exact ⟨rfl, rfl⟩) rfl ?_
  refine z_R_mu (μ1 := z_st _ 75 1 76) rfl ?_
  have fz3 := z_fz_st (i := 1) (v := 76) fz2 (show ((75 : Int) ≤ 76) by decide)
  refine z_aload_n dX8_init_17 rfl ?_
  refine z_bipush dX8_init_18 (by decide) ?_
  refine z_newI (N := 76) (n := 30) dX8_init_20 zq_168 (by decide +kernel) (by decide) (by decide) (by decide) (z_fitl (by decide)) (z_fits (by decide)) (z_fzi fz3) ?_
  have fz4 := z_fz_up fz3 (show 76 ≤ 77 by decide)
  refine z_R_ref (x := ((76 : Nat) : Int) + 1) (y := 77) rfl ?_
  refine z_putF (t := 2) dX8_init_22 zf_X8_19 ⟨by decide, by decide, by decide +kernel⟩ rfl rfl (fun q hq => by cases hq; rfl) ⟨by decide, by decide⟩ (fun ad => by rw [show (z_ftag 8 2) = 2 from rfl, z_rfp (x := 77) (by decide)]; exact ⟨rfl, rfl⟩) rfl ?_
  refine z_R_mu (μ1 := z_st _ 75 2 77) rfl ?_
  have fz5 := z_fz_st (i := 2) (v := 77) fz4 (show ((75 : Int) ≤ 77) by decide)
  refine z_aload_n dX8_init_25 rfl ?_
  refine z_bipush dX8_init_26 (by decide) ?_
  refine z_newI (N := 77) (n := 30) dX8_init_28 zq_168 (by decide +kernel) (by decide) (by decide) (by decide) (z_fitl (by decide)) (z_fits (by decide)) (z_fzi fz5) ?_
  have fz6 := z_fz_up fz5 (show 77 ≤ 78 by decide)
  refine z_R_ref (x := ((77 : Nat) : Int) + 1) (y := 78) rfl ?_
  refine z_putF (t := 2) dX8_init_30 zf_X8_22 ⟨by decide, by decide, by decide +kernel⟩ rfl rfl (fun q hq => by cases hq; rfl) ⟨by decide, by decide⟩ (fun ad => by rw [show (z_ftag 8 3) = 2 from rfl, z_rfp (x := 78) (by decide)]; exact ⟨rfl, rfl⟩) rfl ?_
  refine z_R_mu (μ1 := z_st _ 75 3 78) rfl ?_
  have fz7 := z_fz_st (i := 3) (v := 78) fz6 (show ((75 : Int) ≤ 78) by decide)
  refine z_aload_n dX8_init_33 rfl ?_
  refine z_bipush dX8_init_34 (by decide) ?_
  refine z_newI (N := 78) (n := 30) dX8_init_36 zq_168 (by decide +kernel) (by decide) (by decide) (by decide) (z_fitl (by decide)) (z_fits (by decide)) (z_fzi fz7) ?_
  have fz8 := z_fz_up fz7 (show 78 ≤ 79 by decide)
  refine z_R_ref (x := ((78 : Nat) : Int) + 1) (y := 79) rfl ?_
  refine z_putF (t := 2) dX8_init_38 zf_X8_25 ⟨by decide, by decide, by decide +kernel⟩ rfl rfl (fun q hq => by cases hq; rfl) ⟨by decide, by decide⟩ (fun ad => by rw [show (z_ftag 8 4) = 2 from rfl, z_rfp (x := 79) (by decide)]; exact ⟨rfl, rfl⟩) rfl ?_
  refine z_R_mu (μ1 := z_st _ 75 4 79) rfl ?_
  have fz9 := z_fz_st (i := 4) (v := 79) fz8 (show ((75 : Int) ≤ 79) by decide)
  exact z_return dX8_init_41 rfl rfl h
def R_82 (μ : z_Mem) : z_Mem := (z_st (z_st (z_st μ 82 0 0) 82 1 0) 82 2 83)
theorem R_82_fz {μ : z_Mem} (hz : z_fz μ 82) : z_fz (R_82 μ) 83 := by
  have fz0 := hz
  have fz1 := z_fz_st (i := 0) (v := 0) fz0 (show ((82 : Int) ≤ 82) by decide)
  have fz2 := z_fz_st (i := 1) (v := 0) fz1 (show ((82 : Int) ≤ 82) by decide)
  have fz3 := z_fz_up fz2 (show 82 ≤ 83 by decide)
  have fz4 := z_fz_st (i := 2) (v := 83) fz3 (show ((82 : Int) ≤ 83) by decide)
  exact fz4
set_option maxRecDepth 20000 in
set_option maxHeartbeats 4000000 in
theorem I_82 {μ : z_Mem} {d : Nat} {Q : Option z_V → z_Mem → Prop} (hz : z_fz μ 82) (h : Q none (R_82 μ)) : z_call m_X3_init [(2, 82)] (82, 83, false) μ (d + 1) Q := by
  show z_R m_X3_init 0 [some (2, 82)] [] (82, 83, false) μ (d + 1) Q
  have fz0 := hz
  refine z_aload_n dX3_init_0 rfl ?_
  refine z_objinit dX3_init_1 zq_262 zq_142 zq_143 (by decide) (by decide) ?_
  refine z_aload_n dX3_init_4 rfl ?_
  refine z_lconst0 dX3_init_5 ?_
  refine z_putf (t := 1) dX3_init_6 zf_X3_9 ⟨by decide, by decide, by decide +kernel⟩ rfl ⟨by decide, by decide⟩ (fun _ => ⟨rfl, rfl⟩) (fun q => by cases q) ?_
  refine z_R_mu (μ1 := z_st _ 82 0 0) rfl ?_
  have fz1 := z_fz_st (i := 0) (v := 0) fz0 (show ((82 : Int) ≤ 82) by decide)
  refine z_aload_n dX3_init_9 rfl ?_
  refine z_iconst dX3_init_10 ⟨by decide, by decide⟩ ?_
  refine z_putf (t := 0) dX3_init_11 zf_X3_15 ⟨by decide, by decide, by decide +kernel⟩ rfl ⟨by decide, by decide⟩ (fun _ => ⟨rfl, rfl⟩) (fun q => by cases q) ?_
  refine z_R_mu (μ1 := z_st _ 82 1 0) rfl ?_
  have fz2 := z_fz_st (i := 1) (v := 0) fz1 (show ((82 : Int) ≤ 82) by decide)
  refine z_aload_n dX3_init_14 rfl ?_
  refine z_bipush dX3_init_15 (by decide) ?_
  refine z_newI (N := 82) (n := 60) dX3_init_17 zq_168 (by decide +kernel) (by decide) (by decide) (by decide) (z_fitl (by decide)) (z_fits (by decide)) (z_fzi fz2) ?_
  have fz3 := z_fz_up fz2 (show 82 ≤ 83 by decide)
  refine z_R_ref (x := ((82 : Nat) : Int) + 1) (y := 83) rfl ?_
  refine z_putF (t := 2) dX3_init_19 zf_X3_19 ⟨by decide, by decide, by decide +kernel⟩ rfl rfl (fun q hq => by cases hq; rfl) ⟨by decide, by decide⟩ (fun ad => by rw [show (z_ftag 3 2) = 2 from rfl, z_rfp (x := 83) (by decide)]; exact ⟨rfl, rfl⟩) rfl ?_
  refine z_R_mu (μ1 := z_st _ 82 2 83) rfl ?_
  have fz4 := z_fz_st (i := 2) (v := 83) fz3 (show ((82 : Int) ≤ 83) by decide)
  exact z_return dX3_init_22 rfl rfl h
def R_84 (μ : z_Mem) : z_Mem := (z_st (z_st (z_st μ 84 0 0) 84 1 0) 84 2 85)
theorem R_84_fz {μ : z_Mem} (hz : z_fz μ 84) : z_fz (R_84 μ) 85 := by
  have fz0 := hz
  have fz1 := z_fz_st (i := 0) (v := 0) fz0 (show ((84 : Int) ≤ 84) by decide)
  have fz2 := z_fz_st (i := 1) (v := 0) fz1 (show ((84 : Int) ≤ 84) by decide)
  have fz3 := z_fz_up fz2 (show 84 ≤ 85 by decide)
  have fz4 := z_fz_st (i := 2) (v := 85) fz3 (show ((84 : Int) ≤ 85) by decide)
  exact fz4
set_option maxRecDepth 20000 in
set_option maxHeartbeats 4000000 in
theorem I_84 {μ : z_Mem} {d : Nat} {Q : Option z_V → z_Mem → Prop} (hz : z_fz μ 84) (h : Q none (R_84 μ)) : z_call m_X3_init [(2, 84)] (84, 85, false) μ (d + 1) Q := by
  show z_R m_X3_init 0 [some (2, 84)] [] (84, 85, false) μ (d + 1) Q
  have fz0 := hz
  refine z_aload_n dX3_init_0 rfl ?_
  refine z_objinit dX3_init_1 zq_262 zq_142 zq_143 (by decide) (by decide) ?_
  refine z_aload_n dX3_init_4 rfl ?_
  refine z_lconst0 dX3_init_5 ?_
  refine z_putf (t := 1) dX3_init_6 zf_X3_9 ⟨by decide, by decide, by decide +kernel⟩ rfl ⟨by decide, by decide⟩ (fun _ => ⟨rfl, rfl⟩) (fun q => by cases q) ?_
  refine z_R_mu (μ1 := z_st _ 84 0 0) rfl ?_
  have fz1 := z_fz_st (i := 0) (v := 0) fz0 (show ((84 : Int) ≤ 84) by decide)
  refine z_aload_n dX3_init_9 rfl ?_
  refine z_iconst dX3_init_10 ⟨by decide, by decide⟩ ?_
  refine z_putf (t := 0) dX3_init_11 zf_X3_15 ⟨by decide, by decide, by decide +kernel⟩ rfl ⟨by decide, by decide⟩ (fun _ => ⟨rfl, rfl⟩) (fun q => by cases q) ?_
  refine z_R_mu (μ1 := z_st _ 84 1 0) rfl ?_
  have fz2 := z_fz_st (i := 1) (v := 0) fz1 (show ((84 : Int) ≤ 84) by decide)
  refine z_aload_n dX3_init_14 rfl ?_
  refine z_bipush dX3_init_15 (by decide) ?_
  refine z_newI (N := 84) (n := 60) dX3_init_17 zq_168 (by decide +kernel) (by decide) (by decide) (by decide) (z_fitl (by decide)) (z_fits (by decide)) (z_fzi fz2) ?_
  have fz3 := z_fz_up fz2 (show 84 ≤ 85 by decide)
  refine z_R_ref (x := ((84 : Nat) : Int) + 1) (y := 85) rfl ?_
  refine z_putF (t := 2) dX3_init_19 zf_X3_19 ⟨by decide, by decide, by decide +kernel⟩ rfl rfl (fun q hq => by cases hq; rfl) ⟨by decide, by decide⟩ (fun ad => by rw [show (z_ftag 3 2) = 2 from rfl, z_rfp (x := 85) (by decide)]; exact ⟨rfl, rfl⟩) rfl ?_
  refine z_R_mu (μ1 := z_st _ 84 2 85) rfl ?_
  have fz4 := z_fz_st (i := 2) (v := 85) fz3 (show ((84 : Int) ≤ 85) by decide)
  exact z_return dX3_init_22 rfl rfl h
def R_86 (μ : z_Mem) : z_Mem := (z_st (z_st (z_st μ 86 0 0) 86 1 0) 86 2 87)
theorem R_86_fz {μ : z_Mem} (hz : z_fz μ 86) : z_fz (R_86 μ) 87 := by
  have fz0 := hz
  have fz1 := z_fz_st (i := 0) (v := 0) fz0 (show ((86 : Int) ≤ 86) by decide)
  have fz2 := z_fz_st (i := 1) (v := 0) fz1 (show ((86 : Int) ≤ 86) by decide)
  have fz3 := z_fz_up fz2 (show 86 ≤ 87 by decide)
  have fz4 := z_fz_st (i := 2) (v := 87) fz3 (show ((86 : Int) ≤ 87) by decide)
  exact fz4
set_option maxRecDepth 20000 in
set_option maxHeartbeats 4000000 in
theorem I_86 {μ : z_Mem} {d : Nat} {Q : Option z_V → z_Mem → Prop} (hz : z_fz μ 86) (h : Q none (R_86 μ)) : z_call m_X3_init [(2, 86)] (86, 87, false) μ (d + 1) Q := by
  show z_R m_X3_init 0 [some (2, 86)] [] (86, 87, false) μ (d + 1) Q
  have fz0 := hz
  refine z_aload_n dX3_init_0 rfl ?_
  refine z_objinit dX3_init_1 zq_262 zq_142 zq_143 (by decide) (by decide) ?_
  refine z_aload_n dX3_init_4 rfl ?_
  refine z_lconst0 dX3_init_5 ?_
  refine z_putf (t := 1) dX3_init_6 zf_X3_9 ⟨by decide, by decide, by decide +kernel⟩ rfl ⟨by decide, by decide⟩ (fun _ => ⟨rfl, rfl⟩) (fun q => by cases q) ?_
  refine z_R_mu (μ1 := z_st _ 86 0 0) rfl ?_
  have fz1 := z_fz_st (i := 0) (v := 0) fz0 (show ((86 : Int) ≤ 86) by decide)
  refine z_aload_n dX3_init_9 rfl ?_
  refine z_iconst dX3_init_10 ⟨by decide, by decide⟩ ?_
  refine z_putf (t := 0) dX3_init_11 zf_X3_15 ⟨by decide, by decide, by decide +kernel⟩ rfl ⟨by decide, by decide⟩ (fun _ => ⟨rfl, rfl⟩) (fun q => by cases q) ?_
  refine z_R_mu (μ1 := z_st _ 86 1 0) rfl ?_
  have fz2 := z_fz_st (i := 1) (v := 0) fz1 (show ((86 : Int) ≤ 86) by decide)
  refine z_aload_n dX3_init_14 rfl ?_
  refine z_bipush dX3_init_15 (by decide) ?_
  refine z_newI (N := 86) (n := 60) dX3_init_17 zq_168 (by decide +kernel) (by decide) (by decide) (by decide) (z_fitl (by decide)) (z_fits (by decide)) (z_fzi fz2) ?_
  have fz3 := z_fz_up fz2 (show 86 ≤ 87 by decide)
  refine z_R_ref (x := ((86 : Nat) : Int) + 1) (y := 87) rfl ?_
  refine z_putF (t := 2) dX3_init_19 zf_X3_19 ⟨by decide, by decide, by decide +kernel⟩ rfl rfl (fun q hq => by cases hq; rfl) ⟨by decide, by decide⟩ (fun ad => by rw [show (z_ftag 3 2) = 2 from rfl, z_rfp (x := 87) (by decide)]; exact ⟨rfl, rfl⟩) rfl ?_
  refine z_R_mu (μ1 := z_st _ 86 2 87) rfl ?_
  have fz4 := z_fz_st (i := 2) (v := 87) fz3 (show ((86 : Int) ≤ 87) by decide)
  exact z_return dX3_init_22 rfl rfl h
def R_88 (μ : z_Mem) : z_Mem := (z_st (z_st (z_st μ 88 0 0) 88 1 0) 88 2 89)
theorem R_88_fz {μ : z_Mem} (hz : z_fz μ 88) : z_fz (R_88 μ) 89 := by
  have fz0 := hz
  have fz1 := z_fz_st (i := 0) (v := 0) fz0 (show ((88 : Int) ≤ 88) by decide)
  have fz2 := z_fz_st (i := 1) (v := 0) fz1 (show ((88 : Int) ≤ 88) by decide)
  have fz3 := z_fz_up fz2 (show 88 ≤ 89 by decide)
  have fz4 := z_fz_st (i := 2) (v := 89) fz3 (show ((88 : Int) ≤ 89) by decide)
  exact fz4
set_option maxRecDepth 20000 in
set_option maxHeartbeats 4000000 in
theorem I_88 {μ : z_Mem} {d : Nat} {Q : Option z_V → z_Mem → Prop} (hz : z_fz μ 88) (h : Q none (R_88 μ)) : z_call m_X3_init [(2, 88)] (88, 89, false) μ (d + 1) Q := by
  show z_R m_X3_init 0 [some (2, 88)] [] (88, 89, false) μ (d + 1) Q
  have fz0 := hz
  refine z_aload_n dX3_init_0 rfl ?_
  refine z_objinit dX3_init_1 zq_262 zq_142 zq_143 (by decide) (by decide) ?_
  refine z_aload_n dX3_init_4 rfl ?_
  refine z_lconst0 dX3_init_5 ?_
  refine z_putf (t := 1) dX3_init_6 zf_X3_9 ⟨by decide, by decide, by decide +kernel⟩ rfl ⟨by decide, by decide⟩ (fun _ => ⟨rfl, rfl⟩) (fun q => by cases q) ?_
  refine z_R_mu (μ1 := z_st _ 88 0 0) rfl ?_
  have fz1 := z_fz_st (i := 0) (v := 0) fz0 (show ((88 : Int) ≤ 88) by decide)
  refine z_aload_n dX3_init_9 rfl ?_
  refine z_iconst dX3_init_10 ⟨by decide, by decide⟩ ?_
  refine z_putf (t := 0) dX3_init_11 zf_X3_15 ⟨by decide, by decide, by decide +kernel⟩ rfl ⟨by decide, by decide⟩ (fun _ => ⟨rfl, rfl⟩) (fun q => by cases q) ?_
  refine z_R_mu (μ1 := z_st _ 88 1 0) rfl ?_
  have fz2 := z_fz_st (i := 1) (v := 0) fz1 (show ((88 : Int) ≤ 88) by decide)
  refine z_aload_n dX3_init_14 rfl ?_
  refine z_bipush dX3_init_15 (by decide) ?_
  refine z_newI (N := 88) (n := 60) dX3_init_17 zq_168 (by decide +kernel) (by decide) (by decide) (by decide) (z_fitl (by decide)) (z_fits (by decide)) (z_fzi fz2) ?_
  have fz3 := z_fz_up fz2 (show 88 ≤ 89 by decide)
  refine z_R_ref (x := ((88 : Nat) : Int) + 1) (y := 89) rfl ?_
  refine z_putF (t := 2) dX3_init_19 zf_X3_19 ⟨by decide, by decide, by decide +kernel⟩ rfl rfl (fun q hq => by cases hq; rfl) ⟨by decide, by decide⟩ (fun ad => by rw [show (z_ftag 3 2) = 2 from rfl, z_rfp (x := 89) (by decide)]; exact ⟨rfl, rfl⟩) rfl ?_
  refine z_R_mu (μ1 := z_st _ 88 2 89) rfl ?_
  have fz4 := z_fz_st (i := 2) (v := 89) fz3 (show ((88 : Int) ≤ 89) by decide)
  exact z_return dX3_init_22 rfl rfl h
def R_90 (μ : z_Mem) : z_Mem := (z_st (z_st (z_st μ 90 0 0) 90 1 0) 90 2 91)
theorem R_90_fz {μ : z_Mem} (hz : z_fz μ 90) : z_fz (R_90 μ) 91 := by
  have fz0 := hz
  have fz1 := z_fz_st (i := 0) (v := 0) fz0 (show ((90 : Int) ≤ 90) by decide)
  have fz2 := z_fz_st (i := 1) (v := 0) fz1 (show ((90 : Int) ≤ 90) by decide)
  have fz3 := z_fz_up fz2 (show 90 ≤ 91 by decide)
  have fz4 := z_fz_st (i := 2) (v := 91) fz3 (show ((90 : Int) ≤ 91) by decide)
  exact fz4
set_option maxRecDepth 20000 in
set_option maxHeartbeats 4000000 in
theorem I_90 {μ : z_Mem} {d : Nat} {Q : Option z_V → z_Mem → Prop} (hz : z_fz μ 90) (h : Q none (R_90 μ)) : z_call m_X3_init [(2, 90)] (90, 91, false) μ (d + 1) Q := by
  show z_R m_X3_init 0 [some (2, 90)] [] (90, 91, false) μ (d + 1) Q
  have fz0 := hz
  refine z_aload_n dX3_init_0 rfl ?_
  refine z_objinit dX3_init_1 zq_262 zq_142 zq_143 (by decide) (by decide) ?_
  refine z_aload_n dX3_init_4 rfl ?_
  refine z_lconst0 dX3_init_5 ?_
  refine z_putf (t := 1) dX3_init_6 zf_X3_9 ⟨by decide, by decide, by decide +kernel⟩ rfl ⟨by decide, by decide⟩ (fun _ => ⟨rfl, rfl⟩) (fun q => by cases q) ?_
  refine z_R_mu (μ1 := z_st _ 90 0 0) rfl ?_
  have fz1 := z_fz_st (i := 0) (v := 0) fz0 (show ((90 : Int) ≤ 90) by decide)
  refine z_aload_n dX3_init_9 rfl ?_
  refine z_iconst dX3_init_10 ⟨by decide, by decide⟩ ?_
  refine z_putf (t := 0) dX3_init_11 zf_X3_15 ⟨by decide, by decide, by decide +kernel⟩ rfl ⟨by decide, by decide⟩ (fun _ => ⟨rfl, rfl⟩) (fun q => by cases q) ?_
  refine z_R_mu (μ1 := z_st _ 90 1 0) rfl ?_
  have fz2 := z_fz_st (i := 1) (v := 0) fz1 (show ((90 : Int) ≤ 90) by decide)
  refine z_aload_n dX3_init_14 rfl ?_
  refine z_bipush dX3_init_15 (by decide) ?_
  refine z_newI (N := 90) (n := 60) dX3_init_17 zq_168 (by decide +kernel) (by decide) (by decide) (by decide) (z_fitl (by decide)) (z_fits (by decide)) (z_fzi fz2) ?_
  have fz3 := z_fz_up fz2 (show 90 ≤ 91 by decide)
  refine z_R_ref (x := ((90 : Nat) : Int) + 1) (y := 91) rfl ?_
  refine z_putF (t := 2) dX3_init_19 zf_X3_19 ⟨by decide, by decide, by decide +kernel⟩ rfl rfl (fun q hq => by cases hq; rfl) ⟨by decide, by decide⟩ (fun ad => by rw [show (z_ftag 3 2) = 2 from rfl, z_rfp (x := 91) (by decide)]; exact ⟨rfl, rfl⟩) rfl ?_
  refine z_R_mu (μ1 := z_st _ 90 2 91) rfl ?_
  have fz4 := z_fz_st (i := 2) (v := 91) fz3 (show ((90 : Int) ≤ 91) by decide)
  exact z_return dX3_init_22 rfl rfl h
def R_92 (μ : z_Mem) : z_Mem := (z_st (z_st (z_st μ 92 0 0) 92 1 0) 92 2 93)
theorem R_92_fz {μ : z_Mem} (hz : z_fz μ 92) : z_fz (R_92 μ) 93 := by
  have fz0 := hz
  have fz1 := z_fz_st (i := 0) (v := 0) fz0 (show ((92 : Int) ≤ 92) by decide)
  have fz2 := z_fz_st (i := 1) (v := 0) fz1 (show ((92 : Int) ≤ 92) by decide)
  have fz3 := z_fz_up fz2 (show 92 ≤ 93 by decide)
  have fz4 := z_fz_st (i := 2) (v := 93) fz3 (show ((92 : Int) ≤ 93) by decide)
  exact fz4
set_option maxRecDepth 20000 in
set_option maxHeartbeats 4000000 in
theorem I_92 {μ : z_Mem} {d : Nat} {Q : Option z_V → z_Mem → Prop} (hz : z_fz μ 92) (h : Q none (R_92 μ)) : z_call m_X3_init [(2, 92)] (92, 93, false) μ (d + 1) Q := by
  show z_R m_X3_init 0 [some (2, 92)] [] (92, 93, false) μ (d + 1) Q
  have fz0 := hz
  refine z_aload_n dX3_init_0 rfl ?_
  refine z_objinit dX3_init_1 zq_262 zq_142 zq_143 (by decide) (by decide) ?_
  refine z_aload_n dX3_init_4 rfl ?_
  refine z_lconst0 dX3_init_5 ?_
  refine z_putf (t := 1) dX3_init_6 zf_X3_9 ⟨by decide, by decide, by decide +kernel⟩ rfl ⟨by decide, by decide⟩ (fun _ => ⟨rfl, rfl⟩) (fun q => by cases q) ?_
  refine z_R_mu (μ1 := z_st _ 92 0 0) rfl ?_
  have fz1 := z_fz_st (i := 0) (v := 0) fz0 (show ((92 : Int) ≤ 92) by decide)
  refine z_aload_n dX3_init_9 rfl ?_
  refine z_iconst dX3_init_10 ⟨by decide, by decide⟩ ?_
  refine z_putf (t := 0) dX3_init_11 zf_X3_15 ⟨by decide, by decide, by decide +kernel⟩ rfl ⟨by decide, by decide⟩ (fun _ => ⟨rfl, rfl⟩) (fun q => by cases q) ?_
  refine z_R_mu (μ1 := z_st _ 92 1 0) rfl ?_
  have fz2 := z_fz_st (i := 1) (v := 0) fz1 (show ((92 : Int) ≤ 92) by decide)
  refine z_aload_n dX3_init_14 rfl ?_
  refine z_bipush dX3_init_15 (by decide) ?_
  refine z_newI (N := 92) (n := 60) dX3_init_17 zq_168 (by decide +kernel) (by decide) (by decide) (by decide) (z_fitl (by decide)) (z_fits (by decide)) (z_fzi fz2) ?_
  have fz3 := z_fz_up fz2 (show 92 ≤ 93 by decide)
  refine z_R_ref (x := ((92 : Nat) : Int) + 1) (y := 93) rfl ?_
  refine z_putF (t := 2) dX3_init_19 zf_X3_19 ⟨by decide, by decide, by decide +kernel⟩ rfl rfl (fun q hq => by cases hq; rfl) ⟨by decide, by decide⟩ (fun ad => by rw [show (z_ftag 3 2) = 2 from rfl, z_rfp (x := 93) (by decide)]; exact ⟨rfl, rfl⟩) rfl ?_
  refine z_R_mu (μ1 := z_st _ 92 2 93) rfl ?_
  have fz4 := z_fz_st (i := 2) (v := 93) fz3 (show ((92 : Int) ≤ 93) by decide)
  exact z_return dX3_init_22 rfl rfl h
def R_94 (μ : z_Mem) : z_Mem := (z_st (z_st (z_st μ 94 0 0) 94 1 0) 94 2 95)
theorem R_94_fz {μ : z_Mem} (hz : z_fz μ 94) : z_fz (R_94 μ) 95 := by
  have fz0 := hz
  have fz1 := z_fz_st (i := 0) (v := 0) fz0 (show ((94 : Int) ≤ 94) by decide)
  have fz2 := z_fz_st (i := 1) (v := 0) fz1 (show ((94 : Int) ≤ 94) by decide)
  have fz3 := z_fz_up fz2 (show 94 ≤ 95 by decide)
  have fz4 := z_fz_st (i := 2) (v := 95) fz3 (show ((94 : Int) ≤ 95) by decide)
  exact fz4
set_option maxRecDepth 20000 in
set_option maxHeartbeats 4000000 in
theorem I_94 {μ : z_Mem} {d : Nat} {Q : Option z_V → z_Mem → Prop} (hz : z_fz μ 94) (h : Q none (R_94 μ)) : z_call m_X3_init [(2, 94)] (94, 95, false) μ (d + 1) Q := by
  show z_R m_X3_init 0 [some (2, 94)] [] (94, 95, false) μ (d + 1) Q
  have fz0 := hz
  refine z_aload_n dX3_init_0 rfl ?_
  refine z_objinit dX3_init_1 zq_262 zq_142 zq_143 (by decide) (by decide) ?_
  refine z_aload_n dX3_init_4 rfl ?_
  refine z_lconst0 dX3_init_5 ?_
  refine z_putf (t := 1) dX3_init_6 zf_X3_9 ⟨by decide, by decide, by decide +kernel⟩ rfl ⟨by decide, by decide⟩ (fun _ => ⟨rfl, rfl⟩) (fun q => by cases q) ?_
  refine z_R_mu (μ1 := z_st _ 94 0 0) rfl ?_
  have fz1 := z_fz_st (i := 0) (v := 0) fz0 (show ((94 : Int) ≤ 94) by decide)
  refine z_aload_n dX3_init_9 rfl ?_
  refine z_iconst dX3_init_10 ⟨by decide, by decide⟩ ?_
  refine z_putf (t := 0) dX3_init_11 zf_X3_15 ⟨by decide, by decide, by decide +kernel⟩ rfl ⟨by decide, by decide⟩ (fun _ => ⟨rfl, rfl⟩) (fun q => by cases q) ?_
  refine z_R_mu (μ1 := z_st _ 94 1 0) rfl ?_
  have fz2 := z_fz_st (i := 1) (v := 0) fz1 (show ((94 : Int) ≤ 94) by decide)
  refine z_aload_n dX3_init_14 rfl ?_
  refine z_bipush dX3_init_15 (by decide) ?_
  refine z_newI (N := 94) (n := 60) dX3_init_17 zq_168 (by decide +kernel) (by decide) (by decide) (by decide) (z_fitl (by decide)) (z_fits (by decide)) (z_fzi fz2) ?_
  have fz3 := z_fz_up fz2 (show 94 ≤ 95 by decide)
  refine z_R_ref (x := ((94 : Nat) : Int) + 1) (y := 95) rfl ?_
  refine z_putF (t := 2) dX3_init_19 zf_X3_19 ⟨by decide, by decide, by decide +kernel⟩ rfl rfl (fun q hq => by cases hq; rfl) ⟨by decide, by decide⟩ (fun ad => by rw [show (z_ftag 3 2) = 2 from rfl, z_rfp (x := 95) (by decide)]; exact ⟨rfl, rfl⟩) rfl ?_
  refine z_R_mu (μ1 := z_st _ 94 2 95) rfl ?_
  have fz4 := z_fz_st (i := 2) (v := 95) fz3 (show ((94 : Int) ≤ 95) by decide)
  exact z_return dX3_init_22 rfl rfl h
def R_96 (μ : z_Mem) : z_Mem := (z_st (z_st (z_st μ 96 0 0) 96 1 0) 96 2 97)
theorem R_96_fz {μ : z_Mem} (hz : z_fz μ 96) : z_fz (R_96 μ) 97 := by
  have fz0 := hz
  have fz1 := z_fz_st (i := 0) (v := 0) fz0 (show ((96 : Int) ≤ 96) by decide)
  have fz2 := z_fz_st (i := 1) (v := 0) fz1 (show ((96 : Int) ≤ 96) by decide)
  have fz3 := z_fz_up fz2 (show 96 ≤ 97 by decide)
  have fz4 := z_fz_st (i := 2) (v := 97) fz3 (show ((96 : Int) ≤ 97) by decide)
  exact fz4
set_option maxRecDepth 20000 in
set_option maxHeartbeats 4000000 in
theorem I_96 {μ : z_Mem} {d : Nat} {Q : Option z_V → z_Mem → Prop} (hz : z_fz μ 96) (h : Q none (R_96 μ)) : z_call m_X3_init [(2, 96)] (96, 97, false) μ (d + 1) Q := by
  show z_R m_X3_init 0 [some (2, 96)] [] (96, 97, false) μ (d + 1) Q
  have fz0 := hz
  refine z_aload_n dX3_init_0 rfl ?_
  refine z_objinit dX3_init_1 zq_262 zq_142 zq_143 (by decide) (by decide) ?_
  refine z_aload_n dX3_init_4 rfl ?_
  refine z_lconst0 dX3_init_5 ?_
  refine z_putf (t := 1) dX3_init_6 zf_X3_9 ⟨by decide, by decide, by decide +kernel⟩ rfl ⟨by decide, by decide⟩ (fun _ => ⟨rfl, rfl⟩) (fun q => by cases q) ?_
  refine z_R_mu (μ1 := z_st _ 96 0 0) rfl ?_
  have fz1 := z_fz_st (i := 0) (v := 0) fz0 (show ((96 : Int) ≤ 96) by decide)
  refine z_aload_n dX3_init_9 rfl ?_
  refine z_iconst dX3_init_10 ⟨by decide, by decide⟩ ?_
  refine z_putf (t := 0) dX3_init_11 zf_X3_15 ⟨by decide, by decide, by decide +kernel⟩ rfl ⟨by decide, by decide⟩ (fun _ => ⟨rfl, rfl⟩) (fun q => by cases q) ?_
  refine z_R_mu (μ1 := z_st _ 96 1 0) rfl ?_
  have fz2 := z_fz_st (i := 1) (v := 0) fz1 (show ((96 : Int) ≤ 96) by decide)
  refine z_aload_n dX3_init_14 rfl ?_
  refine z_bipush dX3_init_15 (by decide) ?_
  refine z_newI (N := 96) (n := 60) dX3_init_17 zq_168 (by decide +kernel) (by decide) (by decide) (by decide) (z_fitl (by decide)) (z_fits (by decide)) (z_fzi fz2) ?_
  have fz3 := z_fz_up fz2 (show 96 ≤ 97 by decide)
  refine z_R_ref (x := ((96 : Nat) : Int) + 1) (y := 97) rfl ?_
  refine z_putF (t := 2) dX3_init_19 zf_X3_19 ⟨by decide, by decide, by decide +kernel⟩ rfl rfl (fun q hq => by cases hq; rfl) ⟨by decide, by decide⟩ (fun ad => by rw [show (z_ftag 3 2) = 2 from rfl, z_rfp (x := 97) (by decide)]; exact ⟨rfl, rfl⟩) rfl ?_
  refine z_R_mu (μ1 := z_st _ 96 2 97) rfl ?_
  have fz4 := z_fz_st (i := 2) (v := 97) fz3 (show ((96 : Int) ≤ 97) by decide)
  exact z_return dX3_init_22 rfl rfl h
def R_98 (μ : z_Mem) : z_Mem := (z_st (z_st (z_st μ 98 0 0) 98 1 0) 98 2 99)
theorem R_98_fz {μ : z_Mem} (hz : z_fz μ 98) : z_fz (R_98 μ) 99 := by
  have fz0 := hz
  have fz1 := z_fz_st (i := 0) (v := 0) fz0 (show ((98 : Int) ≤ 98) by decide)
  have fz2 := z_fz_st (i := 1) (v := 0) fz1 (show ((98 : Int) ≤ 98) by decide)
  have fz3 := z_fz_up fz2 (show 98 ≤ 99 by decide)
  have fz4 := z_fz_st (i := 2) (v := 99) fz3 (show ((98 : Int) ≤ 99) by decide)
  exact fz4
set_option maxRecDepth 20000 in
set_option maxHeartbeats 4000000 in
theorem I_98 {μ : z_Mem} {d : Nat} {Q : Option z_V → z_Mem → Prop} (hz : z_fz μ 98) (h : Q none (R_98 μ)) : z_call m_X3_init [(2, 98)] (98, 99, false) μ (d + 1) Q := by
  show z_R m_X3_init 0 [some (2, 98)] [] (98, 99, false) μ (d + 1) Q
  have fz0 := hz
  refine z_aload_n dX3_init_0 rfl ?_
  refine z_objinit dX3_init_1 zq_262 zq_142 zq_143 (by decide) (by decide) ?_
  refine z_aload_n dX3_init_4 rfl ?_
  refine z_lconst0 dX3_init_5 ?_
  refine z_putf (t := 1) dX3_init_6 zf_X3_9 ⟨by decide, by decide, by decide +kernel⟩ rfl ⟨by decide, by decide⟩ (fun _ => ⟨rfl, rfl⟩) (fun q => by cases q) ?_
  refine z_R_mu (μ1 := z_st _ 98 0 0) rfl ?_
  have fz1 := z_fz_st (i := 0) (v := 0) fz0 (show ((98 : Int) ≤ 98) by decide)
  refine z_aload_n dX3_init_9 rfl ?_
  refine z_iconst dX3_init_10 ⟨by decide, by decide⟩ ?_
  refine z_putf (t := 0) dX3_init_11 zf_X3_15 ⟨by decide, by decide, by decide +kernel⟩ rfl ⟨by decide, by decide⟩ (fun _ => ⟨rfl, rfl⟩) (fun q => by cases q) ?_
  refine z_R_mu (μ1 := z_st _ 98 1 0) rfl ?_
  have fz2 := z_fz_st (i := 1) (v := 0) fz1 (show ((98 : Int) ≤ 98) by decide)
  refine z_aload_n dX3_init_14 rfl ?_
  refine z_bipush dX3_init_15 (by decide) ?_
  refine z_newI (N := 98) (n := 60) dX3_init_17 zq_168 (by decide +kernel) (by decide) (by decide) (by decide) (z_fitl (by decide)) (z_fits (by decide)) (z_fzi fz2) ?_
  have fz3 := z_fz_up fz2 (show 98 ≤ 99 by decide)
  refine z_R_ref (x := ((98 : Nat) : Int) + 1) (y := 99) rfl ?_
  refine z_putF (t := 2) dX3_init_19 zf_X3_19 ⟨by decide, by decide, by decide +kernel⟩ rfl rfl (fun q hq => by cases hq; rfl) ⟨by decide, by decide⟩ (fun ad => by rw [show (z_ftag 3 2) = 2 from rfl, z_rfp (x := 99) (by decide)]; exact ⟨rfl, rfl⟩) rfl ?_
  refine z_R_mu (μ1 := z_st _ 98 2 99) rfl ?_
  have fz4 := z_fz_st (i := 2) (v := 99) fz3 (show ((98 : Int) ≤ 99) by decide)
  exact z_return dX3_init_22 rfl rfl h
def R_100 (μ : z_Mem) : z_Mem := (z_st (z_st (z_st μ 100 0 0) 100 1 0) 100 2 101)
theorem R_100_fz {μ : z_Mem} (hz : z_fz μ 100) : z_fz (R_100 μ) 101 := by
  have fz0 := hz
  have fz1 := z_fz_st (i := 0) (v := 0) fz0 (show ((100 : Int) ≤ 100) by decide)
  have fz2 := z_fz_st (i := 1) (v := 0) fz1 (show ((100 : Int) ≤ 100) by decide)
  have fz3 := z_fz_up fz2 (show 100 ≤ 101 by decide)
  have fz4 := z_fz_st (i := 2) (v := 101) fz3 (show ((100 : Int) ≤ 101) by decide)
  exact fz4
set_option maxRecDepth 20000 in
set_option maxHeartbeats 4000000 in
theorem I_100 {μ : z_Mem} {d : Nat} {Q : Option z_V → z_Mem → Prop} (hz : z_fz μ 100) (h : Q none (R_100 μ)) : z_call m_X3_init [(2, 100)] (100, 101, false) μ (d + 1) Q := by
  show z_R m_X3_init 0 [some (2, 100)] [] (100, 101, false) μ (d + 1) Q
  have fz0 := hz
  refine z_aload_n dX3_init_0 rfl ?_
  refine z_objinit dX3_init_1 zq_262 zq_142 zq_143 (by decide) (by decide) ?_
  refine z_aload_n dX3_init_4 rfl ?_
  refine z_lconst0 dX3_init_5 ?_
  refine z_putf (t := 1) dX3_init_6 zf_X3_9 ⟨by decide, by decide, by decide +kernel⟩ rfl ⟨by decide, by decide⟩ (fun _ => ⟨rfl, rfl⟩) (fun q => by cases q) ?_
  refine z_R_mu (μ1 := z_st _ 100 0 0) rfl ?_
  have fz1 := z_fz_st (i := 0) (v := 0) fz0 (show ((100 : Int) ≤ 100) by decide)
  refine z_aload_n dX3_init_9 rfl ?_
  refine z_iconst dX3_init_10 ⟨by decide, by decide⟩ ?_
  refine z_putf (t := 0) dX3_init_11 zf_X3_15 ⟨by decide, by decide, by decide +kernel⟩ rfl ⟨by decide, by decide⟩ (fun _ => ⟨rfl, rfl⟩) (fun q => by cases q) ?_
  refine z_R_mu (μ1 := z_st _ 100 1 0) rfl ?_
  have fz2 := z_fz_st (i := 1) (v := 0) fz1 (show ((100 : Int) ≤ 100) by decide)
  refine z_aload_n dX3_init_14 rfl ?_
  refine z_bipush dX3_init_15 (by decide) ?_
  refine z_newI (N := 100) (n := 60) dX3_init_17 zq_168 (by decide +kernel) (by decide) (by decide) (by decide) (z_fitl (by decide)) (z_fits (by decide)) (z_fzi fz2) ?_
  have fz3 := z_fz_up fz2 (show 100 ≤ 101 by decide)
  refine z_R_ref (x := ((100 : Nat) : Int) + 1) (y := 101) rfl ?_
  refine z_putF (t := 2) dX3_init_19 zf_X3_19 ⟨by decide, by decide, by decide +kernel⟩ rfl rfl (fun q hq => by cases hq; rfl) ⟨by decide, by decide⟩ (fun ad => by rw [show (z_ftag 3 2) = 2 from rfl, z_rfp (x := 101) (by decide)]; exact ⟨rfl, rfl⟩) rfl ?_
  refine z_R_mu (μ1 := z_st _ 100 2 101) rfl ?_
  have fz4 := z_fz_st (i := 2) (v := 101) fz3 (show ((100 : Int) ≤ 101) by decide)
  exact z_return dX3_init_22 rfl rfl h
def R_80 (μ : z_Mem) : z_Mem := (z_st (R_100 (z_st (R_98 (z_st (R_96 (z_st (R_94 (z_st (R_92 (z_st (R_90 (z_st (R_88 (z_st (R_86 (z_st (R_84 (z_st (R_82 (z_st (z_st (z_st μ 80 0 0) 80 1 0) 80 2 81)) 81 0 82)) 81 1 84)) 81 2 86)) 81 3 88)) 81 4 90)) 81 5 92)) 81 6 94)) 81 7 96)) 81 8 98)) 81 9 100)
theorem R_80_fz {μ : z_Mem} (hz : z_fz μ 80) : z_fz (R_80 μ) 101 := by
  have fz0 := hz
  have fz1 := z_fz_st (i := 0) (v := 0) fz0 (show ((80 : Int) ≤ 80) by decide)
  have fz2 := z_fz_st (i := 1) (v := 0) fz1 (show ((80 : Int) ≤ 80) by decide)
  have fz3 := z_fz_up fz2 (show 80 ≤ 81 by decide)
  have fz4 := z_fz_st (i := 2) (v := 81) fz3 (show ((80 : Int) ≤ 81) by decide)
  have fz5 := z_fz_up fz4 (show 81 ≤ 82 by decide)
  have fz6 := R_82_fz fz5
  have fz7 := z_fz_st (i := 0) (v := 82) fz6 (show ((81 : Int) ≤ 83) by decide)
  have fz8 := z_fz_up fz7 (show 83 ≤ 84 by decide)
  have fz9 := R_84_fz fz8
  have fz10 := z_fz_st (i := 1) (v := 84) fz9 (show ((81 : Int) ≤ 85) by decide)
  have fz11 := z_fz_up fz10 (show 85 ≤ 86 by decide)
  have fz12 := R_86_fz fz11
  have fz13 := z_fz_st (i := 2) (v := 86) fz12 (show ((81 : Int) ≤ 87) by decide)
  have fz14 := z_fz_up fz13 (show 87 ≤ 88 by decide)
  have fz15 := R_88_fz fz14
  have fz16 := z_fz_st (i := 3) (v := 88) fz15 (show ((81 : Int) ≤ 89) by decide)
  have fz17 := z_fz_up fz16 (show 89 ≤ 90 by decide)
  have fz18 := R_90_fz fz17
  have fz19 := z_fz_st (i := 4) (v := 90) fz18 (show ((81 : Int) ≤ 91) by decide)
  have fz20 := z_fz_up fz19 (show 91 ≤ 92 by decide)
  have fz21 := R_92_fz fz20
  have fz22 := z_fz_st (i := 5) (v := 92) fz21 (show ((81 : Int) ≤ 93) by decide)
  have fz23 := z_fz_up fz22 (show 93 ≤ 94 by decide)
  have fz24 := R_94_fz fz23
  have fz25 := z_fz_st (i := 6) (v := 94) fz24 (show ((81 : Int) ≤ 95) by decide)
  have fz26 := z_fz_up fz25 (show 95 ≤ 96 by decide)
  have fz27 := R_96_fz fz26
  have fz28 := z_fz_st (i := 7) (v := 96) fz27 (show ((81 : Int) ≤ 97) by decide)
  have fz29 := z_fz_up fz28 (show 97 ≤ 98 by decide)
  have fz30 := R_98_fz fz29
  have fz31 := z_fz_st (i := 8) (v := 98) fz30 (show ((81 : Int) ≤ 99) by decide)
  have fz32 := z_fz_up fz31 (show 99 ≤ 100 by decide)
  have fz33 := R_100_fz fz32
  have fz34 := z_fz_st (i := 9) (v := 100) fz33 (show ((81 : Int) ≤ 101) by decide)
  exact fz34
set_option maxRecDepth 20000 in
set_option maxHeartbeats 4000000 in
theorem I_80 {μ : z_Mem} {d : Nat} {Q : Option z_V → z_Mem → Prop} (hz : z_fz μ 80) (h : Q none (R_80 μ)) : z_call m_X2_init [(2, 80)] (80, 101, false) μ (d + 2) Q := by
  show z_R m_X2_init 0 [some (2, 80), none] [] (80, 101, false) μ (d + 2) Q
  have fz0 := hz
  refine z_aload_n dX2_init_0 rfl ?_
  refine z_objinit dX2_init_1 zq_482 zq_142 zq_143 (by decide) (by decide) ?_
  refine z_aload_n dX2_init_4 rfl ?_
  refine z_iconst dX2_init_5 ⟨by decide, by decide⟩ ?_
  refine z_putf (t := 0) dX2_init_6 zf_X2_9 ⟨by decide, by decide, by decide +kernel⟩ rfl ⟨by decide, by decide⟩ (fun _ => ⟨rfl, rfl⟩) (fun q => by cases q) ?_
  refine z_R_mu (μ1 := z_st _ 80 0 0) rfl ?_
  have fz1 := z_fz_st (i := 0) (v := 0) fz0 (show ((80 : Int) ≤ 80) by decide)
  refine z_aload_n dX2_init_9 rfl ?_
  refine z_iconst dX2_init_10 ⟨by decide, by decide⟩ ?_
  refine z_putf (t := 0) dX2_init_11 zf_X2_15 ⟨by decide, by decide, by decide +kernel⟩ rfl ⟨by decide, by decide⟩ (fun _ => ⟨rfl, rfl⟩) (fun q => by cases q) ?_
  refine z_R_mu (μ1 := z_st _ 80 1 0) rfl ?_
  have fz2 := z_fz_st (i := 1) (v := 0) fz1 (show ((80 : Int) ≤ 80) by decide)
  refine z_aload_n dX2_init_14 rfl ?_
  refine z_bipush dX2_init_15 (by decide) ?_
  refine z_newqJ (N := 80) (n := 10) dX2_init_17 zq_483 zq_484 (by decide +kernel) (by decide) (by decide) (by decide) (z_fitl (by decide)) (z_fits (by decide)) (z_fzi fz2) ?_
  have fz3 := z_fz_up fz2 (show 80 ≤ 81 by decide)
  refine z_R_ref (x := ((80 : Nat) : Int) + 1) (y := 81) rfl ?_
  refine z_putF (t := 2) dX2_init_20 zf_X2_20 ⟨by decide, by decide, by decide +kernel⟩ rfl rfl (fun q hq => by cases hq; rfl) ⟨by decide, by decide⟩ (fun ad => by rw [show (z_ftag 2 2) = 2 from rfl, z_rfp (x := 81) (by decide)]; exact ⟨rfl, rfl⟩) rfl ?_
  refine z_R_mu (μ1 := z_st _ 80 2 81) rfl ?_
  have fz4 := z_fz_st (i := 2) (v := 81) fz3 (show ((80 : Int) ≤ 81) by decide)
  refine z_iconst dX2_init_23 ⟨by decide, by decide⟩ ?_
  refine z_istore_n dX2_init_24 (by decide) (by decide) ?_
  refine z_R_lo (lo1 := [some (2, 80), some (0, 0)]) rfl ?_
  refine z_iload_n dX2_init_25 rfl ?_
  refine z_bipush dX2_init_26 (by decide) ?_
  refine z_icmp_ge (tgt := 50) dX2_init_28 (by decide) (fun q => absurd q (by decide)) (fun _ => ?_)
  refine z_aload_n dX2_init_31 rfl ?_
  refine z_getf (t := 2) dX2_init_32 zf_X2_20 ⟨by decide, by decide, by decide +kernel⟩ rfl ?_
  refine z_R_ref (x := (z_st (z_st (z_st μ 80 0 0) 80 1 0) 80 2 81) 80 ((2 : Nat) : Int)) (y := 81) (by first | rfl | (simp [z_st, z_mm])) ?_
  refine z_iload_n dX2_init_35 rfl ?_
  refine z_new (n := 0) (N := 81) (kc := 3) (q := (RX3, TX3, 3)) dX2_init_36 zq_483 zq_258 zq_123 rfl tyX3 tyX3_ok (by decide +kernel) (by decide +kernel) (by decide) (z_fitl (by decide)) (z_fits (by decide)) (z_fzi fz4) ?_
  have fz5 := z_fz_up fz4 (show 81 ≤ 82 by decide)
  refine z_R_ref (x := ((81 : Nat) : Int) + 1) (y := 82) rfl ?_
  refine z_dup dX2_init_39 rfl ?_
  refine z_invIN (o := 82) (as := []) (rest := [(2, 82), (0, 0), (2, 81)]) 83 dX2_init_40 zm_X3_init zq_485 zq_260 rfl rfl (by decide) rfl rfl (by decide) (by decide) (by decide) (by decide) (Or.inr ⟨z_fitl (by decide), z_fits (by decide)⟩) (I_82 fz5 ?_)
  refine z_R_sk0 (sk1 := [(2, 82), (0, 0), (2, 81)]) rfl ?_
  have fz6 := R_82_fz fz5
  refine z_newqJ_ast dX2_init_43 ⟨by decide, by decide, by decide +kernel⟩ (by decide) (by decide +kernel) ⟨by decide, by decide, by decide +kernel⟩ rfl ?_
  have fz7 := z_fz_st (i := 0) (v := 82) fz6 (show ((81 : Int) ≤ 83) by decide)
  refine z_iinc dX2_init_44 rfl (by decide) ⟨by decide, by decide⟩ ?_
  refine z_R_lo (lo1 := [some (2, 80), some (0, 1)]) rfl ?_
  refine z_goto (tgt := 25) dX2_init_47 (by decide) ?_
  refine z_iload_n dX2_init_25 rfl ?_
  refine z_bipush dX2_init_26 (by decide) ?_
  refine z_icmp_ge (tgt := 50) dX2_init_28 (by decide) (fun q => absurd q (by decide)) (fun _ => ?_)
  refine z_aload_n dX2_init_31 rfl ?_
  refine z_getf (t := 2) dX2_init_32 zf_X2_20 ⟨by decide, by decide, by decide +kernel⟩ rfl ?_
  refine z_R_ref (x := (z_st (R_82 (z_st (z_st (z_st μ 80 0 0) 80 1 0) 80 2 81)) 81 0 82) 80 ((2 : Nat) : Int)) (y := 81) (by first | rfl | (simp [z_st, z_mm])) ?_
  refine z_iload_n dX2_init_35 rfl ?_
  refine z_new (n := 0) (N := 83) (kc := 3) (q := (RX3, TX3, 3)) dX2_init_36 zq_483 zq_258 zq_123 rfl tyX3 tyX3_ok (by decide +kernel) (by decide +kernel) (by decide) (z_fitl (by decide)) (z_fits (by decide)) (z_fzi fz7) ?_
  have fz8 := z_fz_up fz7 (show 83 ≤ 84 by decide)
  refine z_R_ref (x := ((83 : Nat) : Int) + 1) (y := 84) rfl ?_
  refine z_dup dX2_init_39 rfl ?_
  refine z_invIN (o := 84) (as := []) (rest := [(2, 84), (0, 1), (2, 81)]) 85 dX2_init_40 zm_X3_init zq_485 zq_260 rfl rfl (by decide) rfl rfl (by decide) (by decide) (by decide) (by decide) (Or.inr ⟨z_fitl (by decide), z_fits (by decide)⟩) (I_84 fz8 ?_)
  refine z_R_sk0 (sk1 := [(2, 84), (0, 1), (2, 81)]) rfl ?_
  have fz9 := R_84_fz fz8
  refine z_newqJ_ast dX2_init_43 ⟨by decide, by decide, by decide +kernel⟩ (by decide) (by decide +kernel) ⟨by decide, by decide, by decide +kernel⟩ rfl ?_
  have fz10 := z_fz_st (i := 1) (v := 84) fz9 (show ((81 : Int) ≤ 85) by decide)
  refine z_iinc dX2_init_44 rfl (by decide) ⟨by decide, by decide⟩ ?_
  refine z_R_lo (lo1 := [some (2, 80), some (0, 2)]) rfl ?_
  refine z_goto (tgt := 25) dX2_init_47 (by decide) ?_
  refine z_iload_n dX2_init_25 rfl ?_
  refine z_bipush dX2_init_26 (by decide) ?_
  refine z_icmp_ge (tgt := 50) dX2_init_28 (by decide) (fun q => absurd q (by decide)) (fun _ => ?_)
  refine z_aload_n dX2_init_31 rfl ?_
  refine z_getf (t := 2) dX2_init_32 zf_X2_20 ⟨by decide, by decide, by decide +kernel⟩ rfl ?_
  refine z_R_ref (x := (z_st (R_84 (z_st (R_82 (z_st (z_st (z_st μ 80 0 0) 80 1 0) 80 2 81)) 81 0 82)) 81 1 84) 80 ((2 : Nat) : Int)) (y := 81) (by first | rfl | (simp [z_st, z_mm])) ?_
  refine z_iload_n dX2_init_35 rfl ?_
  refine z_new (n := 0) (N := 85) (kc := 3) (q := (RX3, TX3, 3)) dX2_init_36 zq_483 zq_258 zq_123 rfl tyX3 tyX3_ok (by decide +kernel) (by decide +kernel) (by decide) (z_fitl (by decide)) (z_fits (by decide)) (z_fzi fz10) ?_
  have fz11 := z_fz_up fz10 (show 85 ≤ 86 by decide)
  refine z_R_ref (x := ((85 : Nat) : Int) + 1) (y := 86) rfl ?_
  refine z_dup dX2_init_39 rfl ?_
  refine z_invIN (o := 86) (as := []) (rest := [(2, 86), (0, 2), (2, 81)]) 87 dX2_init_40 zm_X3_init zq_485 zq_260 rfl rfl (by decide) rfl rfl (by decide) (by decide) (by decide) (by decide) (Or.inr ⟨z_fitl (by decide), z_fits (by decide)⟩) (I_86 fz11 ?_)
  refine z_R_sk0 (sk1 := [(2, 86), (0, 2), (2, 81)]) rfl ?_
  have fz12 := R_86_fz fz11
  refine z_newqJ_ast dX2_init_43 ⟨by decide, by decide, by decide +kernel⟩ (by decide) (by decide +kernel) ⟨by decide, by decide, by decide +kernel⟩ rfl ?_
  have fz13 := z_fz_st (i := 2) (v := 86) fz12 (show ((81 : Int) ≤ 87) by decide)
  refine z_iinc dX2_init_44 rfl (by decide) ⟨by decide, by decide⟩ ?_
  refine z_R_lo (lo1 := [some (2, 80), some (0, 3)]) rfl ?_
  refine z_goto (tgt := 25) dX2_init_47 (by decide) ?_
  refine z_iload_n dX2_init_25 rfl ?_
  refine z_bipush dX2_init_26 (by decide) ?_
  refine z_icmp_ge (tgt := 50) dX2_init_28 (by decide) (fun q => absurd q (by decide)) (fun _ => ?_)
  refine z_aload_n dX2_init_31 rfl ?_
  refine z_getf (t := 2) dX2_init_32 zf_X2_20 ⟨by decide, by decide, by decide +kernel⟩ rfl ?_
  refine z_R_ref (x := (z_st (R_86 (z_st (R_84 (z_st (R_82 (z_st (z_st (z_st μ 80 0 0) 80 1 0) 80 2 81)) 81 0 82)) 81 1 84)) 81 2 86) 80 ((2 : Nat) : Int)) (y := 81) (by first | rfl | (simp [z_st, z_mm])) ?_
  refine z_iload_n dX2_init_35 rfl ?_
  refine z_new (n := 0) (N := 87) (kc := 3) (q := (RX3, TX3, 3)) dX2_init_36 zq_483 zq_258 zq_123 rfl tyX3 tyX3_ok (by decide +kernel) (by decide +kernel) (by decide) (z_fitl (by decide)) (z_fits (by decide)) (z_fzi fz13) ?_
  have fz14 := z_fz_up fz13 (show 87 ≤ 88 by decide)
  refine z_R_ref (x := ((87 : Nat) : Int) + 1) (y := 88) rfl ?_
  refine z_dup dX2_init_39 rfl ?_
  refine z_invIN (o := 88) (as := []) (rest := [(2, 88), (0, 3), (2, 81)]) 89 dX2_init_40 zm_X3_init zq_485 zq_260 rfl rfl (by decide) rfl rfl (by decide) (by decide) (by decide) (by decide) (Or.inr ⟨z_fitl (by decide), z_fits (by decide)⟩) (I_88 fz14 ?_)
  refine z_R_sk0 (sk1 := [(2, 88), (0, 3), (2, 81)]) rfl ?_
  have fz15 := R_88_fz fz14
  refine z_newqJ_ast dX2_init_43 ⟨by decide, by decide, by decide +kernel⟩ (by decide) (by decide +kernel) ⟨by decide, by decide, by decide +kernel⟩ rfl ?_
  have fz16 := z_fz_st (i := 3) (v := 88) fz15 (show ((81 : Int) ≤ 89) by decide)
  refine z_iinc dX2_init_44 rfl (by decide) ⟨by decide, by decide⟩ ?_
  refine z_R_lo (lo1 := [some (2, 80), some (0, 4)]) rfl ?_
  refine z_goto (tgt := 25) dX2_init_47 (by decide) ?_
  refine z_iload_n dX2_init_25 rfl ?_
  refine z_bipush dX2_init_26 (by decide) ?_
  refine z_icmp_ge (tgt := 50) dX2_init_28 (by decide) (fun q => absurd q (by decide)) (fun _ => ?_)
  refine z_aload_n dX2_init_31 rfl ?_
  refine z_getf (t := 2) dX2_init_32 zf_X2_20 ⟨by decide, by decide, by decide +kernel⟩ rfl ?_
  refine z_R_ref (x := (z_st (R_88 (z_st (R_86 (z_st (R_84 (z_st (R_82 (z_st (z_st (z_st μ 80 0 0) 80 1 0) 80 2 81)) 81 0 82)) 81 1 84)) 81 2 86)) 81 3 88) 80 ((2 : Nat) : Int)) (y := 81) (by first | rfl | (simp [z_st, z_mm])) ?_
  refine z_iload_n dX2_init_35 rfl ?_
  refine z_new (n := 0) (N := 89) (kc := 3) (q := (RX3, TX3, 3)) dX2_init_36 zq_483 zq_258 zq_123 rfl tyX3 tyX3_ok (by decide +kernel) (by decide +kernel) (by decide) (z_fitl (by decide)) (z_fits (by decide)) (z_fzi fz16) ?_
  have fz17 := z_fz_up fz16 (show 89 ≤ 90 by decide)
  refine z_R_ref (x := ((89 : Nat) : Int) + 1) (y := 90) rfl ?_
  refine z_dup dX2_init_39 rfl ?_
  refine z_invIN (o := 90) (as := []) (rest := [(2, 90), (0, 4), (2, 81)]) 91 dX2_init_40 zm_X3_init zq_485 zq_260 rfl rfl (by decide) rfl rfl (by decide) (by decide) (by decide) (by decide) (Or.inr ⟨z_fitl (by decide), z_fits (by decide)⟩) (I_90 fz17 ?_)
  refine z_R_sk0 (sk1 := [(2, 90), (0, 4), (2, 81)]) rfl ?_
  have fz18 := R_90_fz fz17
  refine z_newqJ_ast dX2_init_43 ⟨by decide, by decide, by decide +kernel⟩ (by decide) (by decide +kernel) ⟨by decide, by decide, by decide +kernel⟩ rfl ?_
  have fz19 := z_fz_st (i := 4) (v := 90) fz18 (show ((81 : Int) ≤ 91) by decide)
  refine z_iinc dX2_init_44 rfl (by decide) ⟨by decide, by decide⟩ ?_
  refine z_R_lo (lo1 := [some (2, 80), some (0, 5)]) rfl ?_
  refine z_goto (tgt := 25) dX2_init_47 (by decide) ?_
  refine z_iload_n dX2_init_25 rfl ?_
  refine z_bipush dX2_init_26 (by decide) ?_
  refine z_icmp_ge (tgt := 50) dX2_init_28 (by decide) (fun q => absurd q (by decide)) (fun _ => ?_)
  refine z_aload_n dX2_init_31 rfl ?_
  refine z_getf (t := 2) dX2_init_32 zf_X2_20 ⟨by decide, by decide, by decide +kernel⟩ rfl ?_
  refine z_R_ref (x := (z_st (R_90 (z_st (R_88 (z_st (R_86 (z_st (R_84 (z_st (R_82 (z_st (z_st (z_st μ 80 0 0) 80 1 0) 80 2 81)) 81 0 82)) 81 1 84)) 81 2 86)) 81 3 88)) 81 4 90) 80 ((2 : Nat) : Int)) (y := 81) (by first | rfl | (simp [z_st, z_mm])) ?_
  refine z_iload_n dX2_init_35 rfl ?_
  refine z_new (n := 0) (N := 91) (kc := 3) (q := (RX3, TX3, 3)) dX2_init_36 zq_483 zq_258 zq_123 rfl tyX3 tyX3_ok (by decide +kernel) (by decide +kernel) (by decide) (z_fitl (by decide)) (z_fits (by decide)) (z_fzi fz19) ?_
  have fz20 := z_fz_up fz19 (show 91 ≤ 92 by decide)
  refine z_R_ref (x := ((91 : Nat) : Int) + 1) (y := 92) rfl ?_
  refine z_dup dX2_init_39 rfl ?_
  refine z_invIN (o := 92) (as := []) (rest := [(2, 92), (0, 5), (2, 81)]) 93 dX2_init_40 zm_X3_init zq_485 zq_260 rfl rfl (by decide) rfl rfl (by decide) (by decide) (by decide) (by decide) (Or.inr ⟨z_fitl (by decide), z_fits (by decide)⟩) (I_92 fz20 ?_)
  refine z_R_sk0 (sk1 := [(2, 92), (0, 5), (2, 81)]) rfl ?_
  have fz21 := R_92_fz fz20
  refine z_newqJ_ast dX2_init_43 ⟨by decide, by decide, by decide +kernel⟩ (by decide) (by decide +kernel) ⟨by decide, by decide, by decide +kernel⟩ rfl ?_
  have fz22 := z_fz_st (i := 5) (v := 92) fz21 (show ((81 : Int) ≤ 93) by decide)
  refine z_iinc dX2_init_44 rfl (by decide) ⟨by decide, by decide⟩ ?_
  refine z_R_lo (lo1 := [some (2, 80), some (0, 6)]) rfl ?_
  refine z_goto (tgt := 25) dX2_init_47 (by decide) ?_
  refine z_iload_n dX2_init_25 rfl ?_
  refine z_bipush dX2_init_26 (by decide) ?_
  refine z_icmp_ge (tgt := 50) dX2_init_28 (by decide) (fun q => absurd q (by decide)) (fun _ => ?_)
  refine z_aload_n dX2_init_31 rfl ?_
  refine z_getf (t := 2) dX2_init_32 zf_X2_20 ⟨by decide, by decide, by decide +kernel⟩ rfl ?_
  refine z_R_ref (x := (z_st (R_92 (z_st (R_90 (z_st (R_88 (z_st (R_86 (z_st (R_84 (z_st (R_82 (z_st (z_st (z_st μ 80 0 0) 80 1 0) 80 2 81)) 81 0 82)) 81 1 84)) 81 2 86)) 81 3 88)) 81 4 90)) 81 5 92) 80 ((2 : Nat) : Int)) (y := 81) (by first | rfl | (simp [z_st, z_mm])) ?_
  refine z_iload_n dX2_init_35 rfl ?_
  refine z_new (n := 0) (N := 93) (kc := 3) (q := (RX3, TX3, 3)) dX2_init_36 zq_483 zq_258 zq_123 rfl tyX3 tyX3_ok (by decide +kernel) (by decide +kernel) (by decide) (z_fitl (by decide)) (z_fits (by decide)) (z_fzi fz22) ?_
  have fz23 := z_fz_up fz22 (show 93 ≤ 94 by decide)
  refine z_R_ref (x := ((93 : Nat) : Int) + 1) (y := 94) rfl ?_
  refine z_dup dX2_init_39 rfl ?_
  refine z_invIN (o := 94) (as := []) (rest := [(2, 94), (0, 6), (2, 81)]) 95 dX2_init_40 zm_X3_init zq_485 zq_260 rfl rfl (by decide) rfl rfl (by decide) (by decide) (by decide) (by decide) (Or.inr ⟨z_fitl (by decide), z_fits (by decide)⟩) (I_94 fz23 ?_)
  refine z_R_sk0 (sk1 := [(2, 94), (0, 6), (2, 81)]) rfl ?_
  have fz24 := R_94_fz fz23
  refine z_newqJ_ast dX2_init_43 ⟨by decide, by decide, by decide +kernel⟩ (by decide) (by decide +kernel) ⟨by decide, by decide, by decide +kernel⟩ rfl ?_
  have fz25 := z_fz_st (i := 6) (v := 94) fz24 (show ((81 : Int) ≤ 95) by decide)
  refine z_iinc dX2_init_44 rfl (by decide) ⟨by decide, by decide⟩ ?_
  refine z_R_lo (lo1 := [some (2, 80), some (0, 7)]) rfl ?_
  refine z_goto (tgt := 25) dX2_init_47 (by decide) ?_
  refine z_iload_n dX2_init_25 rfl ?_
  refine z_bipush dX2_init_26 (by decide) ?_
  refine z_icmp_ge (tgt := 50) dX2_init_28 (by decide) (fun q => absurd q (by decide)) (fun _ => ?_)
  refine z_aload_n dX2_init_31 rfl ?_
  refine z_getf (t := 2) dX2_init_32 zf_X2_20 ⟨by decide, by decide, by decide +kernel⟩ rfl ?_
  refine z_R_ref (x := (z_st (R_94 (z_st (R_92 (z_st (R_90 (z_st (R_88 (z_st (R_86 (z_st (R_84 (z_st (R_82 (z_st (z_st (z_st μ 80 0 0) 80 1 0) 80 2 81)) 81 0 82)) 81 1 84)) 81 2 86)) 81 3 88)) 81 4 90)) 81 5 92)) 81 6 94) 80 ((2 : Nat) : Int)) (y := 81) (by first | rfl | (simp [z_st, z_mm])) ?_
  refine z_iload_n dX2_init_35 rfl ?_
  refine z_new (n := 0) (N := 95) (kc := 3) (q := (RX3, TX3, 3)) dX2_init_36 zq_483 zq_258 zq_123 rfl tyX3 tyX3_ok (by decide +kernel) (by decide +kernel) (by decide) (z_fitl (by decide)) (z_fits (by decide)) (z_fzi fz25) ?_
  have fz26 := z_fz_up fz25 (show 95 ≤ 96 by decide)
  refine z_R_ref (x := ((95 : Nat) : Int) + 1) (y := 96) rfl ?_
  refine z_dup dX2_init_39 rfl ?_
  refine z_invIN (o := 96) (as := []) (rest := [(2, 96), (0, 7), (2, 81)]) 97 dX2_init_40 zm_X3_init zq_485 zq_260 rfl rfl (by decide) rfl rfl (by decide) (by decide) (by decide) (by decide) (Or.inr ⟨z_fitl (by decide), z_fits (by decide)⟩) (I_96 fz26 ?_)
  refine z_R_sk0 (sk1 := [(2, 96), (0, 7), (2, 81)]) rfl ?_
  have fz27 := R_96_fz fz26
  refine z_newqJ_ast dX2_init_43 ⟨by decide, by decide, by decide +kernel⟩ (by decide) (by decide +kernel) ⟨by decide, by decide, by decide +kernel⟩ rfl ?_
  have fz28 := z_fz_st (i := 7) (v := 96) fz27 (show ((81 : Int) ≤ 97) by decide)
  refine z_iinc dX2_init_44 rfl (by decide) ⟨by decide, by decide⟩ ?_
  refine z_R_lo (lo1 := [some (2, 80), some (0, 8)]) rfl ?_
  refine z_goto (tgt := 25) dX2_init_47 (by decide) ?_
  refine z_iload_n dX2_init_25 rfl ?_
  refine z_bipush dX2_init_26 (by decide) ?_
  refine z_icmp_ge (tgt := 50) dX2_init_28 (by decide) (fun q => absurd q (by decide)) (fun _ => ?_)
  refine z_aload_n dX2_init_31 rfl ?_
  refine z_getf (t := 2) dX2_init_32 zf_X2_20 ⟨by decide, by decide, by decide +kernel⟩ rfl ?_
  refine z_R_ref (x := (z_st (R_96 (z_st (R_94 (z_st (R_92 (z_st (R_90 (z_st (R_88 (z_st (R_86 (z_st (R_84 (z_st (R_82 (z_st (z_st (z_st μ 80 0 0) 80 1 0) 80 2 81)) 81 0 82)) 81 1 84)) 81 2 86)) 81 3 88)) 81 4 90)) 81 5 92)) 81 6 94)) 81 7 96) 80 ((2 : Nat) : Int)) (y := 81) (by first | rfl | (simp [z_st, z_mm])) ?_
  refine z_iload_n dX2_init_35 rfl ?_
  refine z_new (n := 0) (N := 97) (kc := 3) (q := (RX3, TX3, 3)) dX2_init_36 zq_483 zq_258 zq_123 rfl tyX3 tyX3_ok (by decide +kernel) (by decide +kernel) (by decide) (z_fitl (by decide)) (z_fits (by decide)) (z_fzi fz28) ?_
  have fz29 := z_fz_up fz28 (show 97 ≤ 98 by decide)
  refine z_R_ref (x := ((97 : Nat) : Int) + 1) (y := 98) rfl ?_
  refine z_dup dX2_init_39 rfl ?_
  refine z_invIN (o := 98) (as := []) (rest := [(2, 98), (0, 8), (2, 81)]) 99 dX2_init_40 zm_X3_init zq_485 zq_260 rfl rfl (by decide) rfl rfl (by decide) (by decide) (by decide) (by decide) (Or.inr ⟨z_fitl (by decide), z_fits (by decide)⟩) (I_98 fz29 ?_)
  refine z_R_sk0 (sk1 := [(2, 98), (0, 8), (2, 81)]) rfl ?_
  have fz30 := R_98_fz fz29
  refine z_newqJ_ast dX2_init_43 ⟨by decide, by decide, by decide +kernel⟩ (by decide) (by decide +kernel) ⟨by decide, by decide, by decide +kernel⟩ rfl ?_
  have fz31 := z_fz_st (i := 8) (v := 98) fz30 (show ((81 : Int) ≤ 99) by decide)
  refine z_iinc dX2_init_44 rfl (by decide) ⟨by decide, by decide⟩ ?_
  refine z_R_lo (lo1 := [some (2, 80), some (0, 9)]) rfl ?_
  refine z_goto (tgt := 25) dX2_init_47 (by decide) ?_
  refine z_iload_n dX2_init_25 rfl ?_
  refine z_bipush dX2_init_26 (by decide) ?_
  refine z_icmp_ge (tgt := 50) dX2_init_28 (by decide) (fun q => absurd q (by decide)) (fun _ => ?_)
  refine z_aload_n dX2_init_31 rfl ?_
  refine z_getf (t := 2) dX2_init_32 zf_X2_20 ⟨by decide, by decide, by decide +kernel⟩ rfl ?_
  refine z_R_ref (x := (z_st (R_98 (z_st (R_96 (z_st (R_94 (z_st (R_92 (z_st (R_90 (z_st (R_88 (z_st (R_86 (z_st (R_84 (z_st (R_82 (z_st (z_st (z_st μ 80 0 0) 80 1 0) 80 2 81)) 81 0 82)) 81 1 84)) 81 2 86)) 81 3 88)) 81 4 90)) 81 5 92)) 81 6 94)) 81 7 96)) 81 8 98) 80 ((2 : Nat) : Int)) (y := 81) (by first | rfl | (simp [z_st, z_mm])) ?_
  refine z_iload_n dX2_init_35 rfl ?_
  refine z_new (n := 0) (N := 99) (kc := 3) (q := (RX3, TX3, 3)) dX2_init_36 zq_483 zq_258 zq_123 rfl tyX3 tyX3_ok (by decide +kernel) (by decide +kernel) (by decide) (z_fitl (by decide)) (z_fits (by decide)) (z_fzi fz31) ?_
  have fz32 := z_fz_up fz31 (show 99 ≤ 100 by decide)
  refine z_R_ref (x := ((99 : Nat) : Int) + 1) (y := 100) rfl ?_
  refine z_dup dX2_init_39 rfl ?_
  refine z_invIN (o := 100) (as := []) (rest := [(2, 100), (0, 9), (2, 81)]) 101 dX2_init_40 zm_X3_init zq_485 zq_260 rfl rfl (by decide) rfl rfl (by decide) (by decide) (by decide) (by decide) (Or.inr ⟨z_fitl (by decide), z_fits (by decide)⟩) (I_100 fz32 ?_)
  refine z_R_sk0 (sk1 := [(2, 100), (0, 9), (2, 81)]) rfl ?_
  have fz33 := R_100_fz fz32
  refine z_newqJ_ast dX2_init_43 ⟨by decide, by decide, by decide +kernel⟩ (by decide) (by decide +kernel) ⟨by decide, by decide, by decide +kernel⟩ rfl ?_
  have fz34 := z_fz_st (i := 9) (v := 100) fz33 (show ((81 : Int) ≤ 101) by decide)
  refine z_iinc dX2_init_44 rfl (by decide) ⟨by decide, by decide⟩ ?_
  refine z_R_lo (lo1 := [some (2, 80), some (0, 10)]) rfl ?_
  refine z_goto (tgt := 25) dX2_init_47 (by decide) ?_
  refine z_iload_n dX2_init_25 rfl ?_
  refine z_bipush dX2_init_26 (by decide) ?_
  refine z_icmp_ge (tgt := 50) dX2_init_28 (by decide) (fun _ => ?_) (fun q => absurd q (by decide))
  exact z_return dX2_init_50 rfl rfl h
def R_105 (μ : z_Mem) : z_Mem := (z_st (z_st (z_st μ 105 0 0) 105 1 0) 105 2 106)
theorem R_105_fz {μ : z_Mem} (hz : z_fz μ 105) : z_fz (R_105 μ) 106 := by
  have fz0 := hz
  have fz1 := z_fz_st (i := 0) (v := 0) fz0 (show ((105 : Int) ≤ 105) by decide)
  have fz2 := z_fz_st (i := 1) (v := 0) fz1 (show ((105 : Int) ≤ 105) by decide)
  have fz3 := z_fz_up fz2 (show 105 ≤ 106 by decide)
  have fz4 := z_fz_st (i := 2) (v := 106) fz3 (show ((105 : Int) ≤ 106) by decide)
  exact fz4
set_option maxRecDepth 20000 in
set_option maxHeartbeats 4000000 in
theorem I_105 {μ : z_Mem} {d : Nat} {Q : Option z_V → z_Mem → Prop} (hz : z_fz μ 105) (h : Q none (R_105 μ)) : z_call m_X3_init [(2, 105)] (105, 106, false) μ (d + 1) Q := by
  show z_R m_X3_init 0 [some (2, 105)] [] (105, 106, false) μ (d + 1) Q
  have fz0 := hz
  refine z_aload_n dX3_init_0 rfl ?_
  refine z_objinit dX3_init_1 zq_262 zq_142 zq_143 (by decide) (by decide) ?_
  refine z_aload_n dX3_init_4 rfl ?_
  refine z_lconst0 dX3_init_5 ?_
  refine z_putf (t := 1) dX3_init_6 zf_X3_9 ⟨by decide, by decide, by decide +kernel⟩ rfl ⟨by decide, by decide⟩ (fun _ => ⟨rfl, rfl⟩) (fun q => by cases q) ?_
  refine z_R_mu (μ1 := z_st _ 105 0 0) rfl ?_
  have fz1 := z_fz_st (i := 0) (v := 0) fz0 (show ((105 : Int) ≤ 105) by decide)
  refine z_aload_n dX3_init_9 rfl ?_
  refine z_iconst dX3_init_10 ⟨by decide, by decide⟩ ?_
  refine z_putf (t := 0) dX3_init_11 zf_X3_15 ⟨by decide, by decide, by decide +kernel⟩ rfl ⟨by decide, by decide⟩ (fun _ => ⟨rfl, rfl⟩) (fun q => by cases q) ?_
  refine z_R_mu (μ1 := z_st _ 105 1 0) rfl ?_
  have fz2 := z_fz_st (i := 1) (v := 0) fz1 (show ((105 : Int) ≤ 105) by decide)
  refine z_aload_n dX3_init_14 rfl ?_
  refine z_bipush dX3_init_15 (by decide) ?_
  refine z_newI (N := 105) (n := 60) dX3_init_17 zq_168 (by decide +kernel) (by decide) (by decide) (by decide) (z_fitl (by decide)) (z_fits (by decide)) (z_fzi fz2) ?_
  have fz3 := z_fz_up fz2 (show 105 ≤ 106 by decide)
  refine z_R_ref (x := ((105 : Nat) : Int) + 1) (y := 106) rfl ?_
  refine z_putF (t := 2) dX3_init_19 zf_X3_19 ⟨by decide, by decide, by decide +kernel⟩ rfl rfl (fun q hq => by cases hq; rfl) ⟨by decide, by decide⟩ (fun ad => by rw [show (z_ftag 3 2) = 2 from rfl, z_rfp (x := 106) (by decide)]; exact ⟨rfl, rfl⟩) rfl ?_
  refine z_R_mu (μ1 := z_st _ 105 2 106) rfl ?_
  have fz4 := z_fz_st (i := 2) (v := 106) fz3 (show ((105 : Int) ≤ 106) by decide)
  exact z_return dX3_init_22 rfl rfl h
def R_103 (μ : z_Mem) : z_Mem := (z_st (z_st (z_st (R_105 (z_st (z_st (z_st μ 103 0 0) 103 1 0) 103 2 104)) 103 3 105) 103 4 0) 103 5 107)
theorem R_103_fz {μ : z_Mem} (hz : z_fz μ 103) : z_fz (R_103 μ) 107 := by
  have fz0 := hz
  have fz1 := z_fz_st (i := 0) (v := 0) fz0 (show ((103 : Int) ≤ 103) by decide)
  have fz2 := z_fz_st (i := 1) (v := 0) fz1 (show ((103 : Int) ≤ 103) by decide)
  have fz3 := z_fz_up fz2 (show 103 ≤ 104 by decide)
  have fz4 := z_fz_st (i := 2) (v := 104) fz3 (show ((103 : Int) ≤ 104) by decide)
  have fz5 := z_fz_up fz4 (show 104 ≤ 105 by decide)
  have fz6 := R_105_fz fz5
  have fz7 := z_fz_st (i := 3) (v := 105) fz6 (show ((103 : Int) ≤ 106) by decide)
  have fz8 := z_fz_st (i := 4) (v := 0) fz7 (show ((103 : Int) ≤ 106) by decide)
  have fz9 := z_fz_up fz8 (show 106 ≤ 107 by decide)
  have fz10 := z_fz_st (i := 5) (v := 107) fz9 (show ((103 : Int) ≤ 107) by decide)
  exact fz10
set_option maxRecDepth 20000 in
set_option maxHeartbeats 4000000 in
theorem I_103 {μ : z_Mem} {d : Nat} {Q : Option z_V → z_Mem → Prop} (hz : z_fz μ 103) (h : Q none (R_103 μ)) : z_call m_X7_init [(2, 103)] (103, 107, false) μ (d + 2) Q := by
  show z_R m_X7_init 0 [some (2, 103)] [] (103, 107, false) μ (d + 2) Q
  have fz0 := hz
  refine z_aload_n dX7_init_0 rfl ?_
  refine z_objinit dX7_init_1 zq_503 zq_142 zq_143 (by decide) (by decide) ?_
  refine z_aload_n dX7_init_4 rfl ?_
  refine z_iconst dX7_init_5 ⟨by decide, by decide⟩ ?_
  refine z_putf (t := 0) dX7_init_6 zf_X7_9 ⟨by decide, by decide, by decide +kernel⟩ rfl ⟨by decide, by decide⟩ (fun _ => ⟨rfl, rfl⟩) (fun q => by cases q) ?_
  refine z_R_mu (μ1 := z_st _ 103 0 0) rfl ?_
  have fz1 := z_fz_st (i := 0) (v := 0) fz0 (show ((103 : Int) ≤ 103) by decide)
  refine z_aload_n dX7_init_9 rfl ?_
  refine z_iconst dX7_init_10 ⟨by decide, by decide⟩ ?_
  refine z_putf (t := 0) dX7_init_11 zf_X7_15 ⟨by decide, by decide, by decide +kernel⟩ rfl ⟨by decide, by decide⟩ (fun _ => ⟨rfl, rfl⟩) (fun q => by cases q) ?_
  refine z_R_mu (μ1 := z_st _ 103 1 0) rfl ?_
  have fz2 := z_fz_st (i := 1) (v := 0) fz1 (show ((103 : Int) ≤ 103) by decide)
  refine z_aload_n dX7_init_14 rfl ?_
  refine z_bipush dX7_init_15 (by decide) ?_
  refine z_newI (N := 103) (n := 21) dX7_init_17 zq_168 (by decide +kernel) (by decide) (by decide) (by decide) (z_fitl (by decide)) (z_fits (by decide)) (z_fzi fz2) ?_
  have fz3 := z_fz_up fz2 (show 103 ≤ 104 by decide)
  refine z_R_ref (x := ((103 : Nat) : Int) + 1) (y := 104) rfl ?_
  refine z_putF (t := 2) dX7_init_19 zf_X7_19 ⟨by decide, by decide, by decide +kernel⟩ rfl rfl (fun q hq => by cases hq; rfl) ⟨by decide, by decide⟩ (fun ad => by rw [show (z_ftag 7 2) = 2 from rfl, z_rfp (x := 104) (by decide)]; exact ⟨rfl, rfl⟩) rfl ?_
  refine z_R_mu (μ1 := z_st _ 103 2 104) rfl ?_
  have fz4 := z_fz_st (i := 2) (v := 104) fz3 (show ((103 : Int) ≤ 104) by decide)
  refine z_aload_n dX7_init_22 rfl ?_
  refine z_new (n := 0) (N := 104) (kc := 3) (q := (RX3, TX3, 3)) dX7_init_23 zq_504 zq_258 zq_123 rfl tyX3 tyX3_ok (by decide +kernel) (by decide +kernel) (by decide) (z_fitl (by decide)) (z_fits (by decide)) (z_fzi fz4) ?_
  have fz5 := z_fz_up fz4 (show 104 ≤ 105 by decide)
  refine z_R_ref (x := ((104 : Nat) : Int) + 1) (y := 105) rfl ?_
  refine z_dup dX7_init_26 rfl ?_
  refine z_invIN (o := 105) (as := []) (rest := [(2, 105), (2, 103)]) 106 dX7_init_27 zm_X3_init zq_505 zq_260 rfl rfl (by decide) rfl rfl (by decide) (by decide) (by decide) (by decide) (Or.inr ⟨z_fitl (by decide), z_fits (by decide)⟩) (I_105 fz5 ?_)
  refine z_R_sk0 (sk1 := [(2, 105), (2, 103)]) rfl ?_
  have fz6 := R_105_fz fz5
  refine z_putF (t := 2) dX7_init_30 zf_X7_26 ⟨by decide, by decide, by decide +kernel⟩ rfl rfl (fun q hq => by cases hq; rfl) ⟨by decide, by decide⟩ (fun ad => by rw [show (z_ftag 7 3) = 2 from rfl, z_rfp (x := 105) (by decide)]; exact ⟨rfl, rfl⟩) rfl ?_
  refine z_R_mu (μ1 := z_st _ 103 3 105) rfl ?_
  have fz7 := z_fz_st (i := 3) (v := 105) fz6 (show ((103 : Int) ≤ 106) by decide)
  refine z_aload_n dX7_init_33 rfl ?_
  refine z_iconst dX7_init_34 ⟨by decide, by decide⟩ ?_
  refine z_putf (t := 0) dX7_init_35 zf_X7_30 ⟨by decide, by decide, by decide +kernel⟩ rfl ⟨by decide, by decide⟩ (fun _ => ⟨rfl, rfl⟩) (fun q => by cases q) ?_
  refine z_R_mu (μ1 := z_st _ 103 4 0) rfl ?_
  have fz8 := z_fz_st (i := 4) (v := 0) fz7 (show ((103 : Int) ≤ 106) by decide)
  refine z_aload_n dX7_init_38 rfl ?_
  refine z_bipush dX7_init_39 (by decide) ?_
  refine z_newI (N := 106) (n := 30) dX7_init_41 zq_168 (by decide +kernel) (by decide) (by decide) (by decide) (z_fitl (by decide)) (z_fits (by decide)) (z_fzi fz8) ?_
  have fz9 := z_fz_up fz8 (show 106 ≤ 107 by decide)
  refine z_R_ref (x := ((106 : Nat) : Int) + 1) (y := 107) rfl ?_
  refine z_putF (t := 2) dX7_init_43 zf_X7_33 ⟨by decide, by decide, by decide +kernel⟩ rfl rfl (fun q hq => by cases hq; rfl) ⟨by decide, by decide⟩ (fun ad => by rw [show (z_ftag 7 5) = 2 from rfl, z_rfp (x := 107) (by decide)]; exact ⟨rfl, rfl⟩) rfl ?_
  refine z_R_mu (μ1 := z_st _ 103 5 107) rfl ?_
  have fz10 := z_fz_st (i := 5) (v := 107) fz9 (show ((103 : Int) ≤ 107) by decide)
  exact z_return dX7_init_46 rfl rfl h
def R_110 (μ : z_Mem) : z_Mem := (z_st (z_st (z_st μ 110 0 0) 110 1 0) 110 2 111)
theorem R_110_fz {μ : z_Mem} (hz : z_fz μ 110) : z_fz (R_110 μ) 111 := by
  have fz0 := hz
  have fz1 := z_fz_st (i := 0) (v := 0) fz0 (show ((110 : Int) ≤ 110) by decide)
  have fz2 := z_fz_st (i := 1) (v := 0) fz1 (show ((110 : Int) ≤ 110) by decide)
  have fz3 := z_fz_up fz2 (show 110 ≤ 111 by decide)
  have fz4 := z_fz_st (i := 2) (v := 111) fz3 (show ((110 : Int) ≤ 111) by decide)
  exact fz4
set_option maxRecDepth 20000 in
set_option maxHeartbeats 4000000 in
theorem I_110 {μ : z_Mem} {d : Nat} {Q : Option z_V → z_Mem → Prop} (hz : z_fz μ 110) (h : Q none (R_110 μ)) : z_call m_X3_init [(2, 110)] (110, 111, false) μ (d + 1) Q := by
  show z_R m_X3_init 0 [some (2, 110)] [] (110, 111, false) μ (d + 1) Q
  have fz0 := hz
  refine z_aload_n dX3_init_0 rfl ?_
  refine z_objinit dX3_init_1 zq_262 zq_142 zq_143 (by decide) (by decide) ?_
  refine z_aload_n dX3_init_4 rfl ?_
  refine z_lconst0 dX3_init_5 ?_
  refine z_putf (t := 1) dX3_init_6 zf_X3_9 ⟨by decide, by decide, by decide +kernel⟩ rfl ⟨by decide, by decide⟩ (fun _ => ⟨rfl, rfl⟩) (fun q => by cases q) ?_
  refine z_R_mu (μ1 := z_st _ 110 0 0) rfl ?_
  have fz1 := z_fz_st (i := 0) (v := 0) fz0 (show ((110 : Int) ≤ 110) by decide)
  refine z_aload_n dX3_init_9 rfl ?_
  refine z_iconst dX3_init_10 ⟨by decide, by decide⟩ ?_
  refine z_putf (t := 0) dX3_init_11 zf_X3_15 ⟨by decide, by decide, by decide +kernel⟩ rfl ⟨by decide, by decide⟩ (fun _ => ⟨rfl, rfl⟩) (fun q => by cases q) ?_
  refine z_R_mu (μ1 := z_st _ 110 1 0) rfl ?_
  have fz2 := z_fz_st (i := 1) (v := 0) fz1 (show ((110 : Int) ≤ 110) by decide)
  refine z_aload_n dX3_init_14 rfl ?_
  refine z_bipush dX3_init_15 (by decide) ?_
  refine z_newI (N := 110) (n := 60) dX3_init_17 zq_168 (by decide +kernel) (by decide) (by decide) (by decide) (z_fitl (by decide)) (z_fits (by decide)) (z_fzi fz2) ?_
  have fz3 := z_fz_up fz2 (show 110 ≤ 111 by decide)
  refine z_R_ref (x := ((110 : Nat) : Int) + 1) (y := 111) rfl ?_
  refine z_putF (t := 2) dX3_init_19 zf_X3_19 ⟨by decide, by decide, by decide +kernel⟩ rfl rfl (fun q hq => by cases hq; rfl) ⟨by decide, by decide⟩ (fun ad => by rw [show (z_ftag 3 2) = 2 from rfl, z_rfp (x := 111) (by decide)]; exact ⟨rfl, rfl⟩) rfl ?_
  refine z_R_mu (μ1 := z_st _ 110 2 111) rfl ?_
  have fz4 := z_fz_st (i := 2) (v := 111) fz3 (show ((110 : Int) ≤ 111) by decide)
  exact z_return dX3_init_22 rfl rfl h
def R_108 (μ : z_Mem) : z_Mem := (z_st (z_st (z_st (R_110 (z_st (z_st (z_st μ 108 0 0) 108 1 0) 108 2 109)) 108 3 110) 108 4 0) 108 5 112)
theorem R_108_fz {μ : z_Mem} (hz : z_fz μ 108) : z_fz (R_108 μ) 112 := by
  have fz0 := hz
  have fz1 := z_fz_st (i := 0) (v := 0) fz0 (show ((108 : Int) ≤ 108) by decide)
  have fz2 := z_fz_st (i := 1) (v := 0) fz1 (show ((108 : Int) ≤ 108) by decide)
  have fz3 := z_fz_up fz2 (show 108 ≤ 109 by decide)
  have fz4 := z_fz_st (i := 2) (v := 109) fz3 (show ((108 : Int) ≤ 109) by decide)
  have fz5 := z_fz_up fz4 (show 109 ≤ 110 by decide)
  have fz6 := R_110_fz fz5
  have fz7 := z_fz_st (i := 3) (v := 110) fz6 (show ((108 : Int) ≤ 111) by decide)
  have fz8 := z_fz_st (i := 4) (v := 0) fz7 (show ((108 : Int) ≤ 111) by decide)
  have fz9 := z_fz_up fz8 (show 111 ≤ 112 by decide)
  have fz10 := z_fz_st (i := 5) (v := 112) fz9 (show ((108 : Int) ≤ 112) by decide)
  exact fz10
set_option maxRecDepth 20000 in
set_option maxHeartbeats 4000000 in
theorem I_108 {μ : z_Mem} {d : Nat} {Q : Option z_V → z_Mem → Prop} (hz : z_fz μ 108) (h : Q none (R_108 μ)) : z_call m_X7_init [(2, 108)] (108, 112, false) μ (d + 2) Q := by
  show z_R m_X7_init 0 [some (2, 108)] [] (108, 112, false) μ (d + 2) Q
  have fz0 := hz
  refine z_aload_n dX7_init_0 rfl ?_
  refine z_objinit dX7_init_1 zq_503 zq_142 zq_143 (by decide) (by decide) ?_
  refine z_aload_n dX7_init_4 rfl ?_
  refine z_iconst dX7_init_5 ⟨by decide, by decide⟩ ?_
  refine z_putf (t := 0) dX7_init_6 zf_X7_9 ⟨by decide, by decide, by decide +kernel⟩ rfl ⟨by decide, by decide⟩ (fun _ => ⟨rfl, rfl⟩) (fun q => by cases q) ?_
  refine z_R_mu (μ1 := z_st _ 108 0 0) rfl ?_
  have fz1 := z_fz_st (i := 0) (v := 0) fz0 (show ((108 : Int) ≤ 108) by decide)
  refine z_aload_n dX7_init_9 rfl ?_
  refine z_iconst dX7_init_10 ⟨by decide, by decide⟩ ?_
  refine z_putf (t := 0) dX7_init_11 zf_X7_15 ⟨by decide, by decide, by decide +kernel⟩ rfl ⟨by decide, by decide⟩ (fun _ => ⟨rfl, rfl⟩) (fun q => by cases q) ?_
  refine z_R_mu (μ1 := z_st _ 108 1 0) rfl ?_
  have fz2 := z_fz_st (i := 1) (v := 0) fz1 (show ((108 : Int) ≤ 108) by decide)
  refine z_aload_n dX7_init_14 rfl ?_
  refine z_bipush dX7_init_15 (by decide) ?_
  refine z_newI (N := 108) (n := 21) dX7_init_17 zq_168 (by decide +kernel) (by decide) (by decide) (by decide) (z_fitl (by decide)) (z_fits (by decide)) (z_fzi fz2) ?_
  have fz3 := z_fz_up fz2 (show 108 ≤ 109 by decide)
  refine z_R_ref (x := ((108 : Nat) : Int) + 1) (y := 109) rfl ?_
  refine z_putF (t := 2) dX7_init_19 zf_X7_19 ⟨by decide, by decide, by decide +kernel⟩ rfl rfl (fun q hq => by cases hq; rfl) ⟨by decide, by decide⟩ (fun ad => by rw [show (z_ftag 7 2) = 2 from rfl, z_rfp (x := 109) (by decide)]; exact ⟨rfl, rfl⟩) rfl ?_
  refine z_R_mu (μ1 := z_st _ 108 2 109) rfl ?_
  have fz4 := z_fz_st (i := 2) (v := 109) fz3 (show ((108 : Int) ≤ 109) by decide)
  refine z_aload_n dX7_init_22 rfl ?_
  refine z_new (n := 0) (N := 109) (kc := 3) (q := (RX3, TX3, 3)) dX7_init_23 zq_504 zq_258 zq_123 rfl tyX3 tyX3_ok (by decide +kernel) (by decide +kernel) (by decide) (z_fitl (by decide)) (z_fits (by decide)) (z_fzi fz4) ?_
  have fz5 := z_fz_up fz4 (show 109 ≤ 110 by decide)
  refine z_R_ref (x := ((109 : Nat) : Int) + 1) (y := 110) rfl ?_
  refine z_dup dX7_init_26 rfl ?_
  refine z_invIN (o := 110) (as := []) (rest := [(2, 110), (2, 108)]) 111 dX7_init_27 zm_X3_init zq_505 zq_260 rfl rfl (by decide) rfl rfl (by decide) (by decide) (by decide) (by decide) (Or.inr ⟨z_fitl (by decide), z_fits (by decide)⟩) (I_110 fz5 ?_)
  refine z_R_sk0 (sk1 := [(2, 110), (2, 108)]) rfl ?_
  have fz6 := R_110_fz fz5
  refine z_putF (t := 2) dX7_init_30 zf_X7_26 ⟨by decide, by decide, by decide +kernel⟩ rfl rfl (fun q hq => by cases hq; rfl) ⟨by decide, by decide⟩ (fun ad => by rw [show (z_ftag 7 3) = 2 from rfl, z_rfp (x := 110) (by decide)]; exact ⟨rfl, rfl⟩) rfl ?_
  refine z_R_mu (μ1 := z_st _ 108 3 110) rfl ?_
  have fz7 := z_fz_st (i := 3) (v := 110) fz6 (show ((108 : Int) ≤ 111) by decide)
  refine z_aload_n dX7_init_33 rfl ?_
  refine z_iconst dX7_init_34 ⟨by decide, by decide⟩ ?_
  refine z_putf (t := 0) dX7_init_35 zf_X7_30 ⟨by decide, by decide, by decide +kernel⟩ rfl ⟨by decide, by decide⟩ (fun _ => ⟨rfl, rfl⟩) (fun q => by cases q) ?_
  refine z_R_mu (μ1 := z_st _ 108 4 0) rfl ?_
  have fz8 := z_fz_st (i := 4) (v := 0) fz7 (show ((108 : Int) ≤ 111) by decide)
  refine z_aload_n dX7_init_38 rfl ?_
  refine z_bipush dX7_init_39 (by decide) ?_
  refine z_newI (N := 111) (n := 30) dX7_init_41 zq_168 (by decide +kernel) (by decide) (by decide) (by decide) (z_fitl (by decide)) (z_fits (by decide)) (z_fzi fz8) ?_
  have fz9 := z_fz_up fz8 (show 111 ≤ 112 by decide)
  refine z_R_ref (x := ((111 : Nat) : Int) + 1) (y := 112) rfl ?_
  refine z_putF (t := 2) dX7_init_43 zf_X7_33 ⟨by decide, by decide, by decide +kernel⟩ rfl rfl (fun q hq => by cases hq; rfl) ⟨by decide, by decide⟩ (fun ad => by rw [show (z_ftag 7 5) = 2 from rfl, z_rfp (x := 112) (by decide)]; exact ⟨rfl, rfl⟩) rfl ?_
  refine z_R_mu (μ1 := z_st _ 108 5 112) rfl ?_
  have fz10 := z_fz_st (i := 5) (v := 112) fz9 (show ((108 : Int) ≤ 112) by decide)
  exact z_return dX7_init_46 rfl rfl h
def R_1 (μ : z_Mem) : z_Mem := (z_st (R_108 (z_st (R_103 (z_st (z_st (R_80 (z_st (R_75 (z_st (R_44 (z_st (R_39 (z_st (R_31 (z_st (R_29 (z_st (R_23 (z_st (R_21 (z_st (R_6 (z_st (R_3 (z_st (z_st μ 1 0 2) 1 1 0)) 1 2 3)) 1 3 6)) 1 4 21)) 1 5 23)) 1 6 29)) 1 7 31)) 1 8 39)) 1 9 44)) 1 10 75)) 1 11 80) 1 12 102)) 102 0 103)) 102 1 108)
theorem R_1_fz {μ : z_Mem} (hz : z_fz μ 1) : z_fz (R_1 μ) 112 := by
  have fz0 := hz
  have fz1 := z_fz_up fz0 (show 1 ≤ 2 by decide)
  have fz2 := z_fz_st (i := 0) (v := 2) fz1 (show ((1 : Int) ≤ 2) by decide)
  have fz3 := z_fz_st (i := 1) (v := 0) fz2 (show ((1 : Int) ≤ 2) by decide)
  have fz4 := z_fz_up fz3 (show 2 ≤ 3 by decide)
  have fz5 := R_3_fz fz4
  have fz6 := z_fz_st (i := 2) (v := 3) fz5 (show ((1 : Int) ≤ 5) by decide)
  have fz7 := z_fz_up fz6 (show 5 ≤ 6 by decide)
  have fz8 := R_6_fz fz7
  have fz9 := z_fz_st (i := 3) (v := 6) fz8 (show ((1 : Int) ≤ 20) by decide)
  have fz10 := z_fz_up fz9 (show 20 ≤ 21 by decide)
  have fz11 := R_21_fz fz10
  have fz12 := z_fz_st (i := 4) (v := 21) fz11 (show ((1 : Int) ≤ 22) by decide)
  have fz13 := z_fz_up fz12 (show 22 ≤ 23 by decide)
  have fz14 := R_23_fz fz13
  have fz15 := z_fz_st (i := 5) (v := 23) fz14 (show ((1 : Int) ≤ 28) by decide)
  have fz16 := z_fz_up fz15 (show 28 ≤ 29 by decide)
  have fz17 := R_29_fz fz16
  have fz18 := z_fz_st (i := 6) (v := 29) fz17 (show ((1 : Int) ≤ 30) by decide)
  have fz19 := z_fz_up fz18 (show 30 ≤ 31 by decide)
  have fz20 := R_31_fz fz19
  have fz21 := z_fz_st (i := 7) (v := 31) fz20 (show ((1 : Int) ≤ 38) by decide)
  have fz22 := z_fz_up fz21 (show 38 ≤ 39 by decide)
  have fz23 := R_39_fz fz22
  have fz24 := z_fz_st (i := 8) (v := 39) fz23 (show ((1 : Int) ≤ 43) by decide)
  have fz25 := z_fz_up fz24 (show 43 ≤ 44 by decide)
  have fz26 := R_44_fz fz25
  have fz27 := z_fz_st (i := 9) (v := 44) fz26 (show ((1 : Int) ≤ 74) by decide)
  have fz28 := z_fz_up fz27 (show 74 ≤ 75 by decide)
  have fz29 := R_75_fz fz28
  have fz30 := z_fz_st (i := 10) (v := 75) fz29 (show ((1 : Int) ≤ 79) by decide)
  have fz31 := z_fz_up fz30 (show 79 ≤ 80 by decide)
  have fz32 := R_80_fz fz31
  have fz33 := z_fz_st (i := 11) (v := 80) fz32 (show ((1 : Int) ≤ 101) by decide)
  have fz34 := z_fz_up fz33 (show 101 ≤ 102 by decide)
  have fz35 := z_fz_st (i := 12) (v := 102) fz34 (show ((1 : Int) ≤ 102) by decide)
  have fz36 := z_fz_up fz35 (show 102 ≤ 103 by decide)
  have fz37 := R_103_fz fz36
  have fz38 := z_fz_st (i := 0) (v := 103) fz37 (show ((102 : Int) ≤ 107) by decide)
  have fz39 := z_fz_up fz38 (show 107 ≤ 108 by decide)
  have fz40 := R_108_fz fz39
  have fz41 := z_fz_st (i := 1) (v := 108) fz40 (show ((102 : Int) ≤ 112) by decide)
  exact fz41
set_option maxRecDepth 20000 in
set_option maxHeartbeats 4000000 in
theorem I_1 {μ : z_Mem} {d : Nat} {Q : Option z_V → z_Mem → Prop} (hz : z_fz μ 1) (h : Q none (R_1 μ)) : z_call m_X11_init [(2, 1)] (1, 112, false) μ (d + 3) Q := by
  show z_R m_X11_init 0 [some (2, 1), none] [] (1, 112, false) μ (d + 3) Q
  have fz0 := hz
  refine z_aload_n dX11_init_0 rfl ?_
  refine z_objinit dX11_init_1 zq_141 zq_142 zq_143 (by decide) (by decide) ?_
  refine z_aload_n dX11_init_4 rfl ?_
  refine z_sipush dX11_init_5 (by decide) ?_
  refine z_newI (N := 1) (n := 200) dX11_init_8 zq_168 (by decide +kernel) (by decide) (by decide) (by decide) (z_fitl (by decide)) (z_fits (by decide)) (z_fzi fz0) ?_
  have fz1 := z_fz_up fz0 (show 1 ≤ 2 by decide)
  refine z_R_ref (x := ((1 : Nat) : Int) + 1) (y := 2) rfl ?_
  refine z_putF (t := 2) dX11_init_10 zf_X11_9 ⟨by decide, by decide, by decide +kernel⟩ rfl rfl (fun q hq => by cases hq; rfl) ⟨by decide, by decide⟩ (fun ad => by rw [show (z_ftag 11 0) = 2 from rfl, z_rfp (x := 2) (by decide)]; exact ⟨rfl, rfl⟩) rfl ?_
  refine z_R_mu (μ1 := z_st _ 1 0 2) rfl ?_
  have fz2 := z_fz_st (i := 0) (v := 2) fz1 (show ((1 : Int) ≤ 2) by decide)
  refine z_aload_n dX11_init_13 rfl ?_
  refine z_iconst dX11_init_14 ⟨by decide, by decide⟩ ?_
  refine z_putf (t := 0) dX11_init_15 zf_X11_13 ⟨by decide, by decide, by decide +kernel⟩ rfl ⟨by decide, by decide⟩ (fun _ => ⟨rfl, rfl⟩) (fun q => by cases q) ?_
  refine z_R_mu (μ1 := z_st _ 1 1 0) rfl ?_
  have fz3 := z_fz_st (i := 1) (v := 0) fz2 (show ((1 : Int) ≤ 2) by decide)
  refine z_aload_n dX11_init_18 rfl ?_
  refine z_new (n := 0) (N := 2) (kc := 4) (q := (RX4, TX4, 5)) dX11_init_19 zq_144 zq_145 zq_121 rfl tyX4 tyX4_ok (by decide +kernel) (by decide +kernel) (by decide) (z_fitl (by decide)) (z_fits (by decide)) (z_fzi fz3) ?_
  have fz4 := z_fz_up fz3 (show 2 ≤ 3 by decide)
  refine z_R_ref (x := ((2 : Nat) : Int) + 1) (y := 3) rfl ?_
  refine z_dup dX11_init_22 rfl ?_
  refine z_invIN (o := 3) (as := []) (rest := [(2, 3), (2, 1)]) 5 dX11_init_23 zm_X4_init zq_146 zq_147 rfl rfl (by decide) rfl rfl (by decide) (by decide) (by decide) (by decide) (Or.inr ⟨z_fitl (by decide), z_fits (by decide)⟩) (I_3 fz4 ?_)
  refine z_R_sk0 (sk1 := [(2, 3), (2, 1)]) rfl ?_
  have fz5 := R_3_fz fz4
  refine z_putF (t := 2) dX11_init_26 zf_X11_20 ⟨by decide, by decide, by decide +kernel⟩ rfl rfl (fun q hq => by cases hq; rfl) ⟨by decide, by decide⟩ (fun ad => by rw [show (z_ftag 11 2) = 2 from rfl, z_rfp (x := 3) (by decide)]; exact ⟨rfl, rfl⟩) rfl ?_
  refine z_R_mu (μ1 := z_st _ 1 2 3) rfl ?_
  have fz6 := z_fz_st (i := 2) (v := 3) fz5 (show ((1 : Int) ≤ 5) by decide)
  refine z_aload_n dX11_init_29 rfl ?_
  refine z_new (n := 0) (N := 5) (kc := 9) (q := (RX9, TX9, 18)) dX11_init_30 zq_169 zq_170 zq_122 rfl tyX9 tyX9_ok (by decide +kernel) (by decide +kernel) (by decide) (z_fitl (by decide)) (z_fits (by decide)) (z_fzi fz6) ?_
  have fz7 := z_fz_up fz6 (show 5 ≤ 6 by decide)
  refine z_R_ref (x := ((5 : Nat) : Int) + 1) (y := 6) rfl ?_
  refine z_dup dX11_init_33 rfl ?_
  refine z_invIN (o := 6) (as := []) (rest := [(2, 6), (2, 1)]) 20 dX11_init_34 zm_X9_init zq_171 zq_172 rfl rfl (by decide) rfl rfl (by decide) (by decide) (by decide) (by decide) (Or.inr ⟨z_fitl (by decide), z_fits (by decide)⟩) (I_6 fz7 ?_)
  refine z_R_sk0 (sk1 := [(2, 6), (2, 1)]) rfl ?_
  have fz8 := R_6_fz fz7
  refine z_putF (t := 2) dX11_init_37 zf_X11_27 ⟨by decide, by decide, by decide +kernel⟩ rfl rfl (fun q hq => by cases hq; rfl) ⟨by decide, by decide⟩ (fun ad => by rw [show (z_ftag 11 3) = 2 from rfl, z_rfp (x := 6) (by decide)]; exact ⟨rfl, rfl⟩) rfl ?_
  refine z_R_mu (μ1 := z_st _ 1 3 6) rfl ?_
  have fz9 := z_fz_st (i := 3) (v := 6) fz8 (show ((1 : Int) ≤ 20) by decide)
  refine z_aload_n dX11_init_40 rfl ?_
  refine z_new (n := 0) (N := 20) (kc := 3) (q := (RX3, TX3, 3)) dX11_init_41 zq_257 zq_258 zq_123 rfl tyX3 tyX3_ok (by decide +kernel) (by decide +kernel) (by decide) (z_fitl (by decide)) (z_fits (by decide)) (z_fzi fz9) ?_
  have fz10 := z_fz_up fz9 (show 20 ≤ 21 by decide)
  refine z_R_ref (x := ((20 : Nat) : Int) + 1) (y := 21) rfl ?_
  refine z_dup dX11_init_44 rfl ?_
  refine z_invIN (o := 21) (as := []) (rest := [(2, 21), (2, 1)]) 22 dX11_init_45 zm_X3_init zq_259 zq_260 rfl rfl (by decide) rfl rfl (by decide) (by decide) (by decide) (by decide) (Or.inr ⟨z_fitl (by decide), z_fits (by decide)⟩) (I_21 fz10 ?_)
  refine z_R_sk0 (sk1 := [(2, 21), (2, 1)]) rfl ?_
  have fz11 := R_21_fz fz10
  refine z_putF (t := 2) dX11_init_48 zf_X11_34 ⟨by decide, by decide, by decide +kernel⟩ rfl rfl (fun q hq => by cases hq; rfl) ⟨by decide, by decide⟩ (fun ad => by rw [show (z_ftag 11 4) = 2 from rfl, z_rfp (x := 21) (by decide)]; exact ⟨rfl, rfl⟩) rfl ?_
  refine z_R_mu (μ1 := z_st _ 1 4 21) rfl ?_
  have fz12 := z_fz_st (i := 4) (v := 21) fz11 (show ((1 : Int) ≤ 22) by decide)
  refine z_aload_n dX11_init_51 rfl ?_
  refine z_new (n := 0) (N := 22) (kc := 6) (q := (RX6, TX6, 7)) dX11_init_52 zq_279 zq_280 zq_124 rfl tyX6 tyX6_ok (by decide +kernel) (by decide +kernel) (by decide) (z_fitl (by decide)) (z_fits (by decide)) (z_fzi fz12) ?_
  have fz13 := z_fz_up fz12 (show 22 ≤ 23 by decide)
  refine z_R_ref (x := ((22 : Nat) : Int) + 1) (y := 23) rfl ?_
  refine z_dup dX11_init_55 rfl ?_
  refine z_invIN (o := 23) (as := []) (rest := [(2, 23), (2, 1)]) 28 dX11_init_56 zm_X6_init zq_281 zq_282 rfl rfl (by decide) rfl rfl (by decide) (by decide) (by decide) (by decide) (Or.inr ⟨z_fitl (by decide), z_fits (by decide)⟩) (I_23 fz13 ?_)
  refine z_R_sk0 (sk1 := [(2, 23), (2, 1)]) rfl ?_
  have fz14 := R_23_fz fz13
  refine z_putF (t := 2) dX11_init_59 zf_X11_41 ⟨by decide, by decide, by decide +kernel⟩ rfl rfl (fun q hq => by cases hq; rfl) ⟨by decide, by decide⟩ (fun ad => by rw [show (z_ftag 11 5) = 2 from rfl, z_rfp (x := 23) (by decide)]; exact ⟨rfl, rfl⟩) rfl ?_
  refine z_R_mu (μ1 := z_st _ 1 5 23) rfl ?_
  have fz15 := z_fz_st (i := 5) (v := 23) fz14 (show ((1 : Int) ≤ 28) by decide)
  refine z_aload_n dX11_init_62 rfl ?_
  refine z_new (n := 0) (N := 28) (kc := 10) (q := (RX10, TX10, 7)) dX11_init_63 zq_322 zq_323 zq_125 rfl tyX10 tyX10_ok (by decide +kernel) (by decide +kernel) (by decide) (z_fitl (by decide)) (z_fits (by decide)) (z_fzi fz15) ?_
  have fz16 := z_fz_up fz15 (show 28 ≤ 29 by decide)
  refine z_R_ref (x := ((28 : Nat) : Int) + 1) (y := 29) rfl ?_
  refine z_dup dX11_init_66 rfl ?_
  refine z_aload_n dX11_init_67 rfl ?_
  refine z_getf (t := 2) dX11_init_68 zf_X11_27 ⟨by decide, by decide, by decide +kernel⟩ rfl ?_
  refine z_R_ref (x := (z_st (R_23 (z_st (R_21 (z_st (R_6 (z_st (R_3 (z_st (z_st μ 1 0 2) 1 1 0)) 1 2 3)) 1 3 6)) 1 4 21)) 1 5 23) 1 ((3 : Nat) : Int)) (y := 6) (by first | rfl | (simp [z_st, z_mm])) ?_
  refine z_aload_n dX11_init_71 rfl ?_
  refine z_getf (t := 2) dX11_init_72 zf_X11_41 ⟨by decide, by decide, by decide +kernel⟩ rfl ?_
  refine z_R_ref (x := (z_st (R_23 (z_st (R_21 (z_st (R_6 (z_st (R_3 (z_st (z_st μ 1 0 2) 1 1 0)) 1 2 3)) 1 3 6)) 1 4 21)) 1 5 23) 1 ((5 : Nat) : Int)) (y := 23) (by first | rfl | (simp [z_st, z_mm])) ?_
  refine z_invI (o := 29) (as := [(2, 6), (2, 23)]) (rest := [(2, 29), (2, 1)]) 30 dX11_init_75 zm_X10_init zq_324 zq_325 rfl rfl (by decide) rfl rfl (by decide) (by decide) (by decide) (by decide) (Or.inr ⟨z_fitl (by decide), z_fits (by decide)⟩) (I_29 fz16 ?_)
  refine z_R_sk0 (sk1 := [(2, 29), (2, 1)]) rfl ?_
  have fz17 := R_29_fz fz16
  refine z_putF (t := 2) dX11_init_78 zf_X11_50 ⟨by decide, by decide, by decide +kernel⟩ rfl rfl (fun q hq => by cases hq; rfl) ⟨by decide, by decide⟩ (fun ad => by rw [show (z_ftag 11 6) = 2 from rfl, z_rfp (x := 29) (by decide)]; exact ⟨rfl, rfl⟩) rfl ?_
  refine z_R_mu (μ1 := z_st _ 1 6 29) rfl ?_
  have fz18 := z_fz_st (i := 6) (v := 29) fz17 (show ((1 : Int) ≤ 30) by decide)
  refine z_aload_n dX11_init_81 rfl ?_
  refine z_new (n := 0) (N := 30) (kc := 5) (q := (RX5, TX5, 5)) dX11_init_82 zq_355 zq_356 zq_126 rfl tyX5 tyX5_ok (by decide +kernel) (by decide +kernel) (by decide) (z_fitl (by decide)) (z_fits (by decide)) (z_fzi fz18) ?_
  have fz19 := z_fz_up fz18 (show 30 ≤ 31 by decide)
  refine z_R_ref (x := ((30 : Nat) : Int) + 1) (y := 31) rfl ?_
  refine z_dup dX11_init_85 rfl ?_
  refine z_invIN (o := 31) (as := []) (rest := [(2, 31), (2, 1)]) 38 dX11_init_86 zm_X5_init zq_357 zq_358 rfl rfl (by decide) rfl rfl (by decide) (by decide) (by decide) (by decide) (Or.inr ⟨z_fitl (by decide), z_fits (by decide)⟩) (I_31 fz19 ?_)
  refine z_R_sk0 (sk1 := [(2, 31), (2, 1)]) rfl ?_
  have fz20 := R_31_fz fz19
  refine z_putF (t := 2) dX11_init_89 zf_X11_57 ⟨by decide, by decide, by decide +kernel⟩ rfl rfl (fun q hq => by cases hq; rfl) ⟨by decide, by decide⟩ (fun ad => by rw [show (z_ftag 11 7) = 2 from rfl, z_rfp (x := 31) (by decide)]; exact ⟨rfl, rfl⟩) rfl ?_
  refine z_R_mu (μ1 := z_st _ 1 7 31) rfl ?_
  have fz21 := z_fz_st (i := 7) (v := 31) fz20 (show ((1 : Int) ≤ 38) by decide)
  refine z_aload_n dX11_init_92 rfl ?_
  refine z_new (n := 0) (N := 38) (kc := 0) (q := (RX0, TX0, 6)) dX11_init_93 zq_380 zq_381 zq_127 rfl tyX0 tyX0_ok (by decide +kernel) (by decide +kernel) (by decide) (z_fitl (by decide)) (z_fits (by decide)) (z_fzi fz21) ?_
  have fz22 := z_fz_up fz21 (show 38 ≤ 39 by decide)
  refine z_R_ref (x := ((38 : Nat) : Int) + 1) (y := 39) rfl ?_
  refine z_dup dX11_init_96 rfl ?_
  refine z_invIN (o := 39) (as := []) (rest := [(2, 39), (2, 1)]) 43 dX11_init_97 zm_X0_init zq_382 zq_383 rfl rfl (by decide) rfl rfl (by decide) (by decide) (by decide) (by decide) (Or.inr ⟨z_fitl (by decide), z_fits (by decide)⟩) (I_39 fz22 ?_)
  refine z_R_sk0 (sk1 := [(2, 39), (2, 1)]) rfl ?_
  have fz23 := R_39_fz fz22
  refine z_putF (t := 2) dX11_init_100 zf_X11_64 ⟨by decide, by decide, by decide +kernel⟩ rfl rfl (fun q hq => by cases hq; rfl) ⟨by decide, by decide⟩ (fun ad => by rw [show (z_ftag 11 8) = 2 from rfl, z_rfp (x := 39) (by decide)]; exact ⟨rfl, rfl⟩) rfl ?_
  refine z_R_mu (μ1 := z_st _ 1 8 39) rfl ?_
  have fz24 := z_fz_st (i := 8) (v := 39) fz23 (show ((1 : Int) ≤ 43) by decide)
  refine z_aload_n dX11_init_103 rfl ?_
  refine z_new (n := 0) (N := 43) (kc := 1) (q := (RX1, TX1, 9)) dX11_init_104 zq_413 zq_414 zq_128 rfl tyX1 tyX1_ok (by decide +kernel) (by decide +kernel) (by decide) (z_fitl (by decide)) (z_fits (by decide)) (z_fzi fz24) ?_
  have fz25 := z_fz_up fz24 (show 43 ≤ 44 by decide)
  refine z_R_ref (x := ((43 : Nat) : Int) + 1) (y := 44) rfl ?_
  refine z_dup dX11_init_107 rfl ?_
  refine z_invIN (o := 44) (as := []) (rest := [(2, 44), (2, 1)]) 74 dX11_init_108 zm_X1_init zq_415 zq_416 rfl rfl (by decide) rfl rfl (by decide) (by decide) (by decide) (by decide) (Or.inr ⟨z_fitl (by decide), z_fits (by decide)⟩) (I_44 fz25 ?_)
  refine z_R_sk0 (sk1 := [(2, 44), (2, 1)]) rfl ?_
  have fz26 := R_44_fz fz25
  refine z_putF (t := 2) dX11_init_111 zf_X11_71 ⟨by decide, by decide, by decide +kernel⟩ rfl rfl (fun q hq => by cases hq; rfl) ⟨by decide, by decide⟩ (fun ad => by rw [show (z_ftag 11 9) = 2 from rfl, z_rfp (x := 44) (by decide)]; exact ⟨rfl, rfl⟩) rfl ?_
  refine z_R_mu (μ1 := z_st _ 1 9 44) rfl ?_
  have fz27 := z_fz_st (i := 9) (v := 44) fz26 (show ((1 : Int) ≤ 74) by decide)
  refine z_aload_n dX11_init_114 rfl ?_
  refine z_new (n := 0) (N := 74) (kc := 8) (q := (RX8, TX8, 5)) dX11_init_115 zq_452 zq_453 zq_129 rfl tyX8 tyX8_ok (by decide +kernel) (by decide +kernel) (by decide) (z_fitl (by decide)) (z_fits (by decide)) (z_fzi fz27) ?_
  have fz28 := z_fz_up fz27 (show 74 ≤ 75 by decide)
  refine z_R_ref (x := ((74 : Nat) : Int) + 1) (y := 75) rfl ?_
  refine z_dup dX11_init_118 rfl ?_
  refine z_invIN (o := 75) (as := []) (rest := [(2, 75), (2, 1)]) 79 dX11_init_119 zm_X8_init zq_454 zq_455 rfl rfl (by decide) rfl rfl (by decide) (by decide) (by decide) (by decide) (Or.inr ⟨z_fitl (by decide), z_fits (by decide)⟩) (I_75 fz28 ?_)
  refine z_R_sk0 (sk1 := [(2, 75), (2, 1)]) rfl ?_
  have fz29 := R_75_fz fz28
  refine z_putF (t := 2) dX11_init_122 zf_X11_78 ⟨by decide, by decide, by decide +kernel⟩ rfl rfl (fun q hq => by cases hq; rfl) ⟨by decide, by decide⟩ (fun ad => by rw [show (z_ftag 11 10) = 2 from rfl, z_rfp (x := 75) (by decide)]; exact ⟨rfl, rfl⟩) rfl ?_
  refine z_R_mu (μ1 := z_st _ 1 10 75) rfl ?_
  have fz30 := z_fz_st (i := 10) (v := 75) fz29 (show ((1 : Int) ≤ 79) by decide)
  refine z_aload_n dX11_init_125 rfl ?_
  refine z_new (n := 0) (N := 79) (kc := 2) (q := (RX2, TX2, 3)) dX11_init_126 zq_477 zq_478 zq_130 rfl tyX2 tyX2_ok (by decide +kernel) (by decide +kernel) (by decide) (z_fitl (by decide)) (z_fits (by decide)) (z_fzi fz30) ?_
  have fz31 := z_fz_up fz30 (show 79 ≤ 80 by decide)
  refine z_R_ref (x := ((79 : Nat) : Int) + 1) (y := 80) rfl ?_
  refine z_dup dX11_init_129 rfl ?_
  refine z_invI (o := 80) (as := []) (rest := [(2, 80), (2, 1)]) 101 dX11_init_130 zm_X2_init zq_479 zq_480 rfl rfl (by decide) rfl rfl (by decide) (by decide) (by decide) (by decide) (Or.inr ⟨z_fitl (by decide), z_fits (by decide)⟩) (I_80 fz31 ?_)
  refine z_R_sk0 (sk1 := [(2, 80), (2, 1)]) rfl ?_
  have fz32 := R_80_fz fz31
  refine z_putF (t := 2) dX11_init_133 zf_X11_85 ⟨by decide, by decide, by decide +kernel⟩ rfl rfl (fun q hq => by cases hq; rfl) ⟨by decide, by decide⟩ (fun ad => by rw [show (z_ftag 11 11) = 2 from rfl, z_rfp (x := 80) (by decide)]; exact ⟨rfl, rfl⟩) rfl ?_
  refine z_R_mu (μ1 := z_st _ 1 11 80) rfl ?_
  have fz33 := z_fz_st (i := 11) (v := 80) fz32 (show ((1 : Int) ≤ 101) by decide)
  refine z_aload_n dX11_init_136 rfl ?_
  refine z_iconst dX11_init_137 ⟨by decide, by decide⟩ ?_
  refine z_newqS (N := 101) (n := 2) dX11_init_138 zq_497 zq_498 (by decide +kernel) (by decide) (by decide) (by decide) (z_fitl (by decide)) (z_fits (by decide)) (z_fzi fz33) ?_
  have fz34 := z_fz_up fz33 (show 101 ≤ 102 by decide)
  refine z_R_ref (x := ((101 : Nat) : Int) + 1) (y := 102) rfl ?_
  refine z_putF (t := 2) dX11_init_141 zf_X11_91 ⟨by decide, by decide, by decide +kernel⟩ rfl rfl (fun q hq => by cases hq; rfl) ⟨by decide, by decide⟩ (fun ad => by rw [show (z_ftag 11 12) = 2 from rfl, z_rfp (x := 102) (by decide)]; exact ⟨rfl, rfl⟩) rfl ?_
  refine z_R_mu (μ1 := z_st _ 1 12 102) rfl ?_
  have fz35 := z_fz_st (i := 12) (v := 102) fz34 (show ((1 : Int) ≤ 102) by decide)
  refine z_iconst dX11_init_144 ⟨by decide, by decide⟩ ?_
  refine z_istore_n dX11_init_145 (by decide) (by decide) ?_
  refine z_R_lo (lo1 := [some (2, 1), some (0, 0)]) rfl ?_
  refine z_iload_n dX11_init_146 rfl ?_
  refine z_iconst dX11_init_147 ⟨by decide, by decide⟩ ?_
  refine z_icmp_ge (tgt := 170) dX11_init_148 (by decide) (fun q => absurd q (by decide)) (fun _ => ?_)
  refine z_aload_n dX11_init_151 rfl ?_
  refine z_getf (t := 2) dX11_init_152 zf_X11_91 ⟨by decide, by decide, by decide +kernel⟩ rfl ?_
  refine z_R_ref (x := (z_st (z_st (R_80 (z_st (R_75 (z_st (R_44 (z_st (R_39 (z_st (R_31 (z_st (R_29 (z_st (R_23 (z_st (R_21 (z_st (R_6 (z_st (R_3 (z_st (z_st μ 1 0 2) 1 1 0)) 1 2 3)) 1 3 6)) 1 4 21)) 1 5 23)) 1 6 29)) 1 7 31)) 1 8 39)) 1 9 44)) 1 10 75)) 1 11 80) 1 12 102) 1 ((12 : Nat) : Int)) (y := 102) (by first | rfl | (simp [z_st, z_mm])) ?_
  refine z_iload_n dX11_init_155 rfl ?_
  refine z_new (n := 0) (N := 102) (kc := 7) (q := (RX7, TX7, 6)) dX11_init_156 zq_497 zq_499 zq_131 rfl tyX7 tyX7_ok (by decide +kernel) (by decide +kernel) (by decide) (z_fitl (by decide)) (z_fits (by decide)) (z_fzi fz35) ?_
  have fz36 := z_fz_up fz35 (show 102 ≤ 103 by decide)
  refine z_R_ref (x := ((102 : Nat) : Int) + 1) (y := 103) rfl ?_
  refine z_dup dX11_init_159 rfl ?_
  refine z_invIN (o := 103) (as := []) (rest := [(2, 103), (0, 0), (2, 102)]) 107 dX11_init_160 zm_X7_init zq_500 zq_501 rfl rfl (by decide) rfl rfl (by decide) (by decide) (by decide) (by decide) (Or.inr ⟨z_fitl (by decide), z_fits (by decide)⟩) (I_103 fz36 ?_)
  refine z_R_sk0 (sk1 := [(2, 103), (0, 0), (2, 102)]) rfl ?_
  have fz37 := R_103_fz fz36
  refine z_newqS_ast dX11_init_163 ⟨by decide, by decide, by decide +kernel⟩ (by decide) (by decide +kernel) ⟨by decide, by decide, by decide +kernel⟩ rfl ?_
  have fz38 := z_fz_st (i := 0) (v := 103) fz37 (show ((102 : Int) ≤ 107) by decide)
  refine z_iinc dX11_init_164 rfl (by decide) ⟨by decide, by decide⟩ ?_
  refine z_R_lo (lo1 := [some (2, 1), some (0, 1)]) rfl ?_
  refine z_goto (tgt := 146) dX11_init_167 (by decide) ?_
  refine z_iload_n dX11_init_146 rfl ?_
  refine z_iconst dX11_init_147 ⟨by decide, by decide⟩ ?_
  refine z_icmp_ge (tgt := 170) dX11_init_148 (by decide) (fun q => absurd q (by decide)) (fun _ => ?_)
  refine z_aload_n dX11_init_151 rfl ?_
  refine z_getf (t := 2) dX11_init_152 zf_X11_91 ⟨by decide, by decide, by decide +kernel⟩ rfl ?_
  refine z_R_ref (x := (z_st (R_103 (z_st (z_st (R_80 (z_st (R_75 (z_st (R_44 (z_st (R_39 (z_st (R_31 (z_st (R_29 (z_st (R_23 (z_st (R_21 (z_st (R_6 (z_st (R_3 (z_st (z_st μ 1 0 2) 1 1 0)) 1 2 3)) 1 3 6)) 1 4 21)) 1 5 23)) 1 6 29)) 1 7 31)) 1 8 39)) 1 9 44)) 1 10 75)) 1 11 80) 1 12 102)) 102 0 103) 1 ((12 : Nat) : Int)) (y := 102) (by first | rfl | (simp [z_st, z_mm])) ?_
  refine z_iload_n dX11_init_155 rfl ?_
  refine z_new (n := 0) (N := 107) (kc := 7) (q := (RX7, TX7, 6)) dX11_init_156 zq_497 zq_499 zq_131 rfl tyX7 tyX7_ok (by decide +kernel) (by decide +kernel) (by decide) (z_fitl (by decide)) (z_fits (by decide)) (z_fzi fz38) ?_
  have fz39 := z_fz_up fz38 (show 107 ≤ 108 by decide)
  refine z_R_ref (x := ((107 : Nat) : Int) + 1) (y := 108) rfl ?_
  refine z_dup dX11_init_159 rfl ?_
  refine z_invIN (o := 108) (as := []) (rest := [(2, 108), (0, 1), (2, 102)]) 112 dX11_init_160 zm_X7_init zq_500 zq_501 rfl rfl (by decide) rfl rfl (by decide) (by decide) (by decide) (by decide) (Or.inr ⟨z_fitl (by decide), z_fits (by decide)⟩) (I_108 fz39 ?_)
  refine z_R_sk0 (sk1 := [(2, 108), (0, 1), (2, 102)]) rfl ?_
  have fz40 := R_108_fz fz39
  refine z_newqS_ast dX11_init_163 ⟨by decide, by decide, by decide +kernel⟩ (by decide) (by decide +kernel) ⟨by decide, by decide, by decide +kernel⟩ rfl ?_
  have fz41 := z_fz_st (i := 1) (v := 108) fz40 (show ((102 : Int) ≤ 112) by decide)
  refine z_iinc dX11_init_164 rfl (by decide) ⟨by decide, by decide⟩ ?_
  refine z_R_lo (lo1 := [some (2, 1), some (0, 2)]) rfl ?_
  refine z_goto (tgt := 146) dX11_init_167 (by decide) ?_
  refine z_iload_n dX11_init_146 rfl ?_
  refine z_iconst dX11_init_147 ⟨by decide, by decide⟩ ?_
  refine z_icmp_ge (tgt := 170) dX11_init_148 (by decide) (fun _ => ?_) (fun q => absurd q (by decide))
  exact z_return dX11_init_170 rfl rfl h
def R_113 (μ : z_Mem) : z_Mem := (z_st (z_st (z_st (z_st (z_st (z_st (z_st (z_st (z_st (z_st (z_st (z_st (z_st (z_st (z_st (z_st (z_st (z_st (z_st (z_st (z_st (z_st (z_st (z_st (z_st (z_st (z_st (z_st (z_st (z_st (z_st (z_st (z_st (z_st (z_st (z_st (z_st (z_st (z_st (z_st (z_st (z_st (z_st (z_st (z_st (z_st (z_st (z_st (z_st (z_st (z_st (z_st (z_st (z_st (z_st (z_st (z_st (z_st (z_st (z_st (z_st (z_st (z_st (z_st (z_st (z_st (z_st (z_st (z_st (z_st (z_st (z_st (z_st (z_st (z_st (z_st (z_st (z_st (z_st (z_st (z_st (z_st (z_st (z_st (z_st (z_st (z_st (z_st (z_st (z_st (z_st (z_st (z_st (z_st μ 113 0 114) 113 1 115) 113 2 116) 113 3 117) 113 4 118) 113 5 119) 113 7 120) 113 12 121) 113 13 122) 113 14 123) 113 15 124) 113 16 125) 113 17 126) 113 18 127) 113 19 128) 113 20 129) 113 24 130) 113 25 131) 113 26 132) 113 27 133) 113 28 134) 113 29 135) 113 30 136) 113 31 137) 113 35 138) 113 36 139) 113 39 140) 113 40 141) 113 42 142) 113 43 143) 113 44 144) 113 47 145) 113 48 146) 113 49 147) 114 83 1) 114 84 1) 114 85 1) 114 86 1) 114 87 1) 114 88 1) 114 89 1) 114 90 1) 114 91 1) 114 92 1) 114 93 1) 114 94 1) 114 95 1) 114 96 1) 114 97 1) 114 98 1) 114 99 1) 114 100 1) 114 101 1) 114 102 1) 114 103 1) 114 104 1) 114 105 1) 114 106 1) 114 107 1) 114 108 1) 114 109 1) 114 110 1) 114 111 1) 114 112 1) 114 113 1) 114 114 1) 114 115 1) 114 116 1) 114 117 1) 114 118 1) 114 119 1) 114 120 1) 114 121 1) 114 122 1) 114 123 1) 114 124 1) 114 125 1) 114 126 1) 114 127 1) 114 128 1) 114 129 1) 114 130 1) 114 131 1) 114 132 1) 114 133 1) 114 134 1) 114 135 1) 114 136 1) 114 137 1) 114 138 1) 114 139 1) 114 140 1) 114 141 1) 114 142 1)
theorem R_113_fz {μ : z_Mem} (hz : z_fz μ 113) : z_fz (R_113 μ) 147 := by
  have fz0 := hz
  have fz1 := z_fz_up fz0 (show 113 ≤ 114 by decide)
  have fz2 := z_fz_st (i := 0) (v := 114) fz1 (show ((113 : Int) ≤ 114) by decide)
  have fz3 := z_fz_up fz2 (show 114 ≤ 115 by decide)
  have fz4 := z_fz_st (i := 1) (v := 115) fz3 (show ((113 : Int) ≤ 115) by decide)
  have fz5 := z_fz_up fz4 (show 115 ≤ 116 by decide)
  have fz6 := z_fz_st (i := 2) (v := 116) fz5 (show ((113 : Int) ≤ 116) by decide)
  have fz7 := z_fz_up fz6 (show 116 ≤ 117 by decide)
  have fz8 := z_fz_st (i := 3) (v := 117) fz7 (show ((113 : Int) ≤ 117) by decide)
  have fz9 := z_fz_up fz8 (show 117 ≤ 118 by decide)
  have fz10 := z_fz_st (i := 4) (v := 118) fz9 (show ((113 : Int) ≤ 118) by decide)
  have fz11 := z_fz_up fz10 (show 118 ≤ 119 by decide)
  have fz12 := z_fz_st (i := 5) (v := 119) fz11 (show ((113 : Int) ≤ 119) by decide)
  have fz13 := z_fz_up fz12 (show 119 ≤ 120 by decide)
  have fz14 := z_fz_st (i := 7) (v := 120) fz13 (show ((113 : Int) ≤ 120) by decide)
  have fz15 := z_fz_up fz14 (show 120 ≤ 121 by decide)
  have fz16 := z_fz_st (i := 12) (v := 121) fz15 (show ((113 : Int) ≤ 121) by decide)
  have fz17 := z_fz_up fz16 (show 121 ≤ 122 by decide)
  have fz18 := z_fz_st (i := 13) (v := 122) fz17 (show ((113 : Int) ≤ 122) by decide)
  have fz19 := z_fz_up fz18 (show 122 ≤ 123 by decide)
  have fz20 := z_fz_st (i := 14) (v := 123) fz19 (show ((113 : Int) ≤ 123) by decide)
  have fz21 := z_fz_up fz20 (show 123 ≤ 124 by decide)
  have fz22 := z_fz_st (i := 15) (v := 124) fz21 (show ((113 : Int) ≤ 124) by decide)
  have fz23 := z_fz_up fz22 (show 124 ≤ 125 by decide)
  have fz24 := z_fz_st (i := 16) (v := 125) fz23 (show ((113 : Int) ≤ 125) by decide)
  have fz25 := z_fz_up fz24 (show 125 ≤ 126 by decide)
  have fz26 := z_fz_st (i := 17) (v := 126) fz25 (show ((113 : Int) ≤ 126) by decide)
  have fz27 := z_fz_up fz26 (show 126 ≤ 127 by decide)
  have fz28 := z_fz_st (i := 18) (v := 127) fz27 (show ((113 : Int) ≤ 127) by decide)
  have fz29 := z_fz_up fz28 (show 127 ≤ 128 by decide)
  have fz30 := z_fz_st (i := 19) (v := 128) fz29 (show ((113 : Int) ≤ 128) by decide)
  have fz31 := z_fz_up fz30 (show 128 ≤ 129 by decide)
  have fz32 := z_fz_st (i := 20) (v := 129) fz31 (show ((113 : Int) ≤ 129) by decide)
  have fz33 := z_fz_up fz32 (show 129 ≤ 130 by decide)
  have fz34 := z_fz_st (i := 24) (v := 130) fz33 (show ((113 : Int) ≤ 130) by decide)
  have fz35 := z_fz_up fz34 (show 130 ≤ 131 by decide)
  have fz36 := z_fz_st (i := 25) (v := 131) fz35 (show ((113 : Int) ≤ 131) by decide)
  have fz37 := z_fz_up fz36 (show 131 ≤ 132 by decide)
  have fz38 := z_fz_st (i := 26) (v := 132) fz37 (show ((113 : Int) ≤ 132) by decide)
  have fz39 := z_fz_up fz38 (show 132 ≤ 133 by decide)
  have fz40 := z_fz_st (i := 27) (v := 133) fz39 (show ((113 : Int) ≤ 133) by decide)
  have fz41 := z_fz_up fz40 (show 133 ≤ 134 by decide)
  have fz42 := z_fz_st (i := 28) (v := 134) fz41 (show ((113 : Int) ≤ 134) by decide)
  have fz43 := z_fz_up fz42 (show 134 ≤ 135 by decide)
  have fz44 := z_fz_st (i := 29) (v := 135) fz43 (show ((113 : Int) ≤ 135) by decide)
  have fz45 := z_fz_up fz44 (show 135 ≤ 136 by decide)
  have fz46 := z_fz_st (i := 30) (v := 136) fz45 (show ((113 : Int) ≤ 136) by decide)
  have fz47 := z_fz_up fz46 (show 136 ≤ 137 by decide)
  have fz48 := z_fz_st (i := 31) (v := 137) fz47 (show ((113 : Int) ≤ 137) by decide)
  have fz49 := z_fz_up fz48 (show 137 ≤ 138 by decide)
  have fz50 := z_fz_st (i := 35) (v := 138) fz49 (show ((113 : Int) ≤ 138) by decide)
  have fz51 := z_fz_up fz50 (show 138 ≤ 139 by decide)
  have fz52 := z_fz_st (i := 36) (v := 139) fz51 (show ((113 : Int) ≤ 139) by decide)
  have fz53 := z_fz_up fz52 (show 139 ≤ 140 by decide)
  have fz54 := z_fz_st (i := 39) (v := 140) fz53 (show ((113 : Int) ≤ 140) by decide)
  have fz55 := z_fz_up fz54 (show 140 ≤ 141 by decide)
  have fz56 := z_fz_st (i := 40) (v := 141) fz55 (show ((113 : Int) ≤ 141) by decide)
  have fz57 := z_fz_up fz56 (show 141 ≤ 142 by decide)
  have fz58 := z_fz_st (i := 42) (v := 142) fz57 (show ((113 : Int) ≤ 142) by decide)
  have fz59 := z_fz_up fz58 (show 142 ≤ 143 by decide)
  have fz60 := z_fz_st (i := 43) (v := 143) fz59 (show ((113 : Int) ≤ 143) by decide)
  have fz61 := z_fz_up fz60 (show 143 ≤ 144 by decide)
  have fz62 := z_fz_st (i := 44) (v := 144) fz61 (show ((113 : Int) ≤ 144) by decide)
  have fz63 := z_fz_up fz62 (show 144 ≤ 145 by decide)
  have fz64 := z_fz_st (i := 47) (v := 145) fz63 (show ((113 : Int) ≤ 145) by decide)
  have fz65 := z_fz_up fz64 (show 145 ≤ 146 by decide)
  have fz66 := z_fz_st (i := 48) (v := 146) fz65 (show ((113 : Int) ≤ 146) by decide)
  have fz67 := z_fz_up fz66 (show 146 ≤ 147 by decide)
  have fz68 := z_fz_st (i := 49) (v := 147) fz67 (show ((113 : Int) ≤ 147) by decide)
  have fz69 := z_fz_st (i := 83) (v := 1) fz68 (show ((114 : Int) ≤ 147) by decide)
  have fz70 := z_fz_st (i := 84) (v := 1) fz69 (show ((114 : Int) ≤ 147) by decide)
  have fz71 := z_fz_st (i := 85) (v := 1) fz70 (show ((114 : Int) ≤ 147) by decide)
  have fz72 := z_fz_st (i := 86) (v := 1) fz71 (show ((114 : Int) ≤ 147) by decide)
  have fz73 := z_fz_st (i := 87) (v := 1) fz72 (show ((114 : Int) ≤ 147) by decide)
  have fz74 := z_fz_st (i := 88) (v := 1) fz73 (show ((114 : Int) ≤ 147) by decide)
  have fz75 := z_fz_st (i := 89) (v := 1) fz74 (show ((114 : Int) ≤ 147) by decide)
  have fz76 := z_fz_st (i := 90) (v := 1) fz75 (show ((114 : Int) ≤ 147) by decide)
  have fz77 := z_fz_st (i := 91) (v := 1) fz76 (show ((114 : Int) ≤ 147) by decide)
  have fz78 := z_fz_st (i := 92) (v := 1) fz77 (show ((114 : Int) ≤ 147) by decide)
  have fz79 := z_fz_st (i := 93) (v := 1) fz78 (show ((114 : Int) ≤ 147) by decide)
  have fz80 := z_fz_st (i := 94) (v := 1) fz79 (show ((114 : Int) ≤ 147) by decide)
  have fz81 := z_fz_st (i := 95) (v := 1) fz80 (show ((114 : Int) ≤ 147) by decide)
  have fz82 := z_fz_st (i := 96) (v := 1) fz81 (show ((114 : Int) ≤ 147) by decide)
  have fz83 := z_fz_st (i := 97) (v := 1) fz82 (show ((114 : Int) ≤ 147) by decide)
  have fz84 := z_fz_st (i := 98) (v := 1) fz83 (show ((114 : Int) ≤ 147) by decide)
  have fz85 := z_fz_st (i := 99) (v := 1) fz84 (show ((114 : Int) ≤ 147) by decide)
  have fz86 := z_fz_st (i := 100) (v := 1) fz85 (show ((114 : Int) ≤ 147) by decide)
  have fz87 := z_fz_st (i := 101) (v := 1) fz86 (show ((114 : Int) ≤ 147) by decide)
  have fz88 := z_fz_st (i := 102) (v := 1) fz87 (show ((114 : Int) ≤ 147) by decide)
  have fz89 := z_fz_st (i := 103) (v := 1) fz88 (show ((114 : Int) ≤ 147) by decide)
  have fz90 := z_fz_st (i := 104) (v := 1) fz89 (show ((114 : Int) ≤ 147) by decide)
  have fz91 := z_fz_st (i := 105) (v := 1) fz90 (show ((114 : Int) ≤ 147) by decide)
  have fz92 := z_fz_st (i := 106) (v := 1) fz91 (show ((114 : Int) ≤ 147) by decide)
  have fz93 := z_fz_st (i := 107) (v := 1) fz92 (show ((114 : Int) ≤ 147) by decide)
  have fz94 := z_fz_st (i := 108) (v := 1) fz93 (show ((114 : Int) ≤ 147) by decide)
  have fz95 := z_fz_st (i := 109) (v := 1) fz94 (show ((114 : Int) ≤ 147) by decide)
  have fz96 := z_fz_st (i := 110) (v := 1) fz95 (show ((114 : Int) ≤ 147) by decide)
  have fz97 := z_fz_st (i := 111) (v := 1) fz96 (show ((114 : Int) ≤ 147) by decide)
  have fz98 := z_fz_st (i := 112) (v := 1) fz97 (show ((114 : Int) ≤ 147) by decide)
  have fz99 := z_fz_st (i := 113) (v := 1) fz98 (show ((114 : Int) ≤ 147) by decide)
  have fz100 := z_fz_st (i := 114) (v := 1) fz99 (show ((114 : Int) ≤ 147) by decide)
  have fz101 := z_fz_st (i := 115) (v := 1) fz100 (show ((114 : Int) ≤ 147) by decide)
  have fz102 := z_fz_st (i := 116) (v := 1) fz101 (show ((114 : Int) ≤ 147) by decide)
  have fz103 := z_fz_st (i := 117) (v := 1) fz102 (show ((114 : Int) ≤ 147) by decide)
  have fz104 := z_fz_st (i := 118) (v := 1) fz103 (show ((114 : Int) ≤ 147) by decide)
  have fz105 := z_fz_st (i := 119) (v := 1) fz104 (show ((114 : Int) ≤ 147) by decide)
  have fz106 := z_fz_st (i := 120) (v := 1) fz105 (show ((114 : Int) ≤ 147) by decide)
  have fz107 := z_fz_st (i := 121) (v := 1) fz106 (show ((114 : Int) ≤ 147) by decide)
  have fz108 := z_fz_st (i := 122) (v := 1) fz107 (show ((114 : Int) ≤ 147) by decide)
  have fz109 := z_fz_st (i := 123) (v := 1) fz108 (show ((114 : Int) ≤ 147) by decide)
  have fz110 := z_fz_st (i := 124) (v := 1) fz109 (show ((114 : Int) ≤ 147) by decide)
  have fz111 := z_fz_st (i := 125) (v := 1) fz110 (show ((114 : Int) ≤ 147) by decide)
  have fz112 := z_fz_st (i := 126) (v := 1) fz111 (show ((114 : Int) ≤ 147) by decide)
  have fz113 := z_fz_st (i := 127) (v := 1) fz112 (show ((114 : Int) ≤ 147) by decide)
  have fz114 := z_fz_st (i := 128) (v := 1) fz113 (show ((114 : Int) ≤ 147) by decide)
  have fz115 := z_fz_st (i := 129) (v := 1) fz114 (show ((114 : Int) ≤ 147) by decide)
  have fz116 := z_fz_st (i := 130) (v := 1) fz115 (show ((114 : Int) ≤ 147) by decide)
  have fz117 := z_fz_st (i := 131) (v := 1) fz116 (show ((114 : Int) ≤ 147) by decide)
  have fz118 := z_fz_st (i := 132) (v := 1) fz117 (show ((114 : Int) ≤ 147) by decide)
  have fz119 := z_fz_st (i := 133) (v := 1) fz118 (show ((114 : Int) ≤ 147) by decide)
  have fz120 := z_fz_st (i := 134) (v := 1) fz119 (show ((114 : Int) ≤ 147) by decide)
  have fz121 := z_fz_st (i := 135) (v := 1) fz120 (show ((114 : Int) ≤ 147) by decide)
  have fz122 := z_fz_st (i := 136) (v := 1) fz121 (show ((114 : Int) ≤ 147) by decide)
  have fz123 := z_fz_st (i := 137) (v := 1) fz122 (show ((114 : Int) ≤ 147) by decide)
  have fz124 := z_fz_st (i := 138) (v := 1) fz123 (show ((114 : Int) ≤ 147) by decide)
  have fz125 := z_fz_st (i := 139) (v := 1) fz124 (show ((114 : Int) ≤ 147) by decide)
  have fz126 := z_fz_st (i := 140) (v := 1) fz125 (show ((114 : Int) ≤ 147) by decide)
  have fz127 := z_fz_st (i := 141) (v := 1) fz126 (show ((114 : Int) ≤ 147) by decide)
  have fz128 := z_fz_st (i := 142) (v := 1) fz127 (show ((114 : Int) ≤ 147) by decide)
  exact fz128
set_option maxRecDepth 20000 in
set_option maxHeartbeats 4000000 in
theorem I_113 {μ : z_Mem} {d : Nat} {Q : Option z_V → z_Mem → Prop} (hz : z_fz μ 113) (h : Q none (R_113 μ)) : z_call m_X12_init [(2, 113)] (113, 147, false) μ (d + 1) Q := by
  show z_R m_X12_init 0 [some (2, 113), none] [] (113, 147, false) μ (d + 1) Q
  have fz0 := hz
  refine z_aload_n dX12_init_0 rfl ?_
  refine z_objinit dX12_init_1 zq_1201 zq_142 zq_143 (by decide) (by decide) ?_
  refine z_aload_n dX12_init_4 rfl ?_
  refine z_sipush dX12_init_5 (by decide) ?_
  refine z_newI (N := 113) (n := 143) dX12_init_8 zq_168 (by decide +kernel) (by decide) (by decide) (by decide) (z_fitl (by decide)) (z_fits (by decide)) (z_fzi fz0) ?_
  have fz1 := z_fz_up fz0 (show 113 ≤ 114 by decide)
  refine z_R_ref (x := ((113 : Nat) : Int) + 1) (y := 114) rfl ?_
  refine z_putF (t := 2) dX12_init_10 zf_X12_9 ⟨by decide, by decide, by decide +kernel⟩ rfl rfl (fun q hq => by cases hq; rfl) ⟨by decide, by decide⟩ (fun ad => by rw [show (z_ftag 12 0) = 2 from rfl, z_rfp (x := 114) (by decide)]; exact ⟨rfl, rfl⟩) rfl ?_
  refine z_R_mu (μ1 := z_st _ 113 0 114) rfl ?_
  have fz2 := z_fz_st (i := 0) (v := 114) fz1 (show ((113 : Int) ≤ 114) by decide)
  refine z_aload_n dX12_init_13 rfl ?_
  refine z_sipush dX12_init_14 (by decide) ?_
  refine z_newI (N := 114) (n := 143) dX12_init_17 zq_168 (by decide +kernel) (by decide) (by decide) (by decide) (z_fitl (by decide)) (z_fits (by decide)) (z_fzi fz2) ?_
  have fz3 := z_fz_up fz2 (show 114 ≤ 115 by decide)
  refine z_R_ref (x := ((114 : Nat) : Int) + 1) (y := 115) rfl ?_
  refine z_putF (t := 2) dX12_init_19 zf_X12_13 ⟨by decide, by decide, by decide +kernel⟩ rfl rfl (fun q hq => by cases hq; rfl) ⟨by decide, by decide⟩ (fun ad => by rw [show (z_ftag 12 1) = 2 from rfl, z_rfp (x := 115) (by decide)]; exact ⟨rfl, rfl⟩) rfl ?_
  refine z_R_mu (μ1 := z_st _ 113 1 115) rfl ?_
  have fz4 := z_fz_st (i := 1) (v := 115) fz3 (show ((113 : Int) ≤ 115) by decide)
  refine z_aload_n dX12_init_22 rfl ?_
  refine z_sipush dX12_init_23 (by decide) ?_
  refine z_newI (N := 115) (n := 143) dX12_init_26 zq_168 (by decide +kernel) (by decide) (by decide) (by decide) (z_fitl (by decide)) (z_fits (by decide)) (z_fzi fz4) ?_
  have fz5 := z_fz_up fz4 (show 115 ≤ 116 by decide)
  refine z_R_ref (x := ((115 : Nat) : Int) + 1) (y := 116) rfl ?_
  refine z_putF (t := 2) dX12_init_28 zf_X12_16 ⟨by decide, by decide, by decide +kernel⟩ rfl rfl (fun q hq => by cases hq; rfl) ⟨by decide, by decide⟩ (fun ad => by rw [show (z_ftag 12 2) = 2 from rfl, z_rfp (x := 116) (by decide)]; exact ⟨rfl, rfl⟩) rfl ?_
  refine z_R_mu (μ1 := z_st _ 113 2 116) rfl ?_
  have fz6 := z_fz_st (i := 2) (v := 116) fz5 (show ((113 : Int) ≤ 116) by decide)
  refine z_aload_n dX12_init_31 rfl ?_
  refine z_sipush dX12_init_32 (by decide) ?_
  refine z_newI (N := 116) (n := 1430) dX12_init_35 zq_168 (by decide +kernel) (by decide) (by decide) (by decide) (z_fitl (by decide)) (z_fits (by decide)) (z_fzi fz6) ?_
  have fz7 := z_fz_up fz6 (show 116 ≤ 117 by decide)
  refine z_R_ref (x := ((116 : Nat) : Int) + 1) (y := 117) rfl ?_
  refine z_putF (t := 2) dX12_init_37 zf_X12_19 ⟨by decide, by decide, by decide +kernel⟩ rfl rfl (fun q hq => by cases hq; rfl) ⟨by decide, by decide⟩ (fun ad => by rw [show (z_ftag 12 3) = 2 from rfl, z_rfp (x := 117) (by decide)]; exact ⟨rfl, rfl⟩) rfl ?_
  refine z_R_mu (μ1 := z_st _ 113 3 117) rfl ?_
  have fz8 := z_fz_st (i := 3) (v := 117) fz7 (show ((113 : Int) ≤ 117) by decide)
  refine z_aload_n dX12_init_40 rfl ?_
  refine z_sipush dX12_init_41 (by decide) ?_
  refine z_newI (N := 117) (n := 286) dX12_init_44 zq_168 (by decide +kernel) (by decide) (by decide) (by decide) (z_fitl (by decide)) (z_fits (by decide)) (z_fzi fz8) ?_
  have fz9 := z_fz_up fz8 (show 117 ≤ 118 by decide)
  refine z_R_ref (x := ((117 : Nat) : Int) + 1) (y := 118) rfl ?_
  refine z_putF (t := 2) dX12_init_46 zf_X12_22 ⟨by decide, by decide, by decide +kernel⟩ rfl rfl (fun q hq => by cases hq; rfl) ⟨by decide, by decide⟩ (fun ad => by rw [show (z_ftag 12 4) = 2 from rfl, z_rfp (x := 118) (by decide)]; exact ⟨rfl, rfl⟩) rfl ?_
  refine z_R_mu (μ1 := z_st _ 113 4 118) rfl ?_
  have fz10 := z_fz_st (i := 4) (v := 118) fz9 (show ((113 : Int) ≤ 118) by decide)
  refine z_aload_n dX12_init_49 rfl ?_
  refine z_iconst dX12_init_50 ⟨by decide, by decide⟩ ?_
  refine z_newZ (N := 118) (n := 2) dX12_init_51 zq_1353 (by decide +kernel) (by decide) (by decide) (by decide) (z_fitl (by decide)) (z_fits (by decide)) (z_fzi fz10) ?_
  have fz11 := z_fz_up fz10 (show 118 ≤ 119 by decide)
  refine z_R_ref (x := ((118 : Nat) : Int) + 1) (y := 119) rfl ?_
  refine z_putF (t := 2) dX12_init_53 zf_X12_25 ⟨by decide, by decide, by decide +kernel⟩ rfl rfl (fun q hq => by cases hq; rfl) ⟨by decide, by decide⟩ (fun ad => by rw [show (z_ftag 12 5) = 2 from rfl, z_rfp (x := 119) (by decide)]; exact ⟨rfl, rfl⟩) rfl ?_
  refine z_R_mu (μ1 := z_st _ 113 5 119) rfl ?_
  have fz12 := z_fz_st (i := 5) (v := 119) fz11 (show ((113 : Int) ≤ 119) by decide)
  refine z_aload_n dX12_init_56 rfl ?_
  refine z_sipush dX12_init_57 (by decide) ?_
  refine z_newB (N := 119) (n := 200) dX12_init_60 zq_1354 (by decide +kernel) (by decide) (by decide) (by decide) (z_fitl (by decide)) (z_fits (by decide)) (z_fzi fz12) ?_
  have fz13 := z_fz_up fz12 (show 119 ≤ 120 by decide)
  refine z_R_ref (x := ((119 : Nat) : Int) + 1) (y := 120) rfl ?_
  refine z_putF (t := 2) dX12_init_62 zf_X12_29 ⟨by decide, by decide, by decide +kernel⟩ rfl rfl (fun q hq => by cases hq; rfl) ⟨by decide, by decide⟩ (fun ad => by rw [show (z_ftag 12 7) = 2 from rfl, z_rfp (x := 120) (by decide)]; exact ⟨rfl, rfl⟩) rfl ?_
  refine z_R_mu (μ1 := z_st _ 113 7 120) rfl ?_
  have fz14 := z_fz_st (i := 7) (v := 120) fz13 (show ((113 : Int) ≤ 120) by decide)
  refine z_aload_n dX12_init_65 rfl ?_
  refine z_bipush dX12_init_66 (by decide) ?_
  refine z_newI (N := 120) (n := 30) dX12_init_68 zq_168 (by decide +kernel) (by decide) (by decide) (by decide) (z_fitl (by decide)) (z_fits (by decide)) (z_fzi fz14) ?_
  have fz15 := z_fz_up fz14 (show 120 ≤ 121 by decide)
  refine z_R_ref (x := ((120 : Nat) : Int) + 1) (y := 121) rfl ?_
  refine z_putF (t := 2) dX12_init_70 zf_X12_33 ⟨by decide, by decide, by decide +kernel⟩ rfl rfl (fun q hq => by cases hq; rfl) ⟨by decide, by decide⟩ (fun ad => by rw [show (z_ftag 12 12) = 2 from rfl, z_rfp (x := 121) (by decide)]; exact ⟨rfl, rfl⟩) rfl ?_
  refine z_R_mu (μ1 := z_st _ 113 12 121) rfl ?_
  have fz16 := z_fz_st (i := 12) (v := 121) fz15 (show ((113 : Int) ≤ 121) by decide)
  refine z_aload_n dX12_init_73 rfl ?_
  refine z_bipush dX12_init_74 (by decide) ?_
  refine z_newI (N := 121) (n := 30) dX12_init_76 zq_168 (by decide +kernel) (by decide) (by decide) (by decide) (z_fitl (by decide)) (z_fits (by decide)) (z_fzi fz16) ?_
  have fz17 := z_fz_up fz16 (show 121 ≤ 122 by decide)
  refine z_R_ref (x := ((121 : Nat) : Int) + 1) (y := 122) rfl ?_
  refine z_putF (t := 2) dX12_init_78 zf_X12_36 ⟨by decide, by decide, by decide +kernel⟩ rfl rfl (fun q hq => by cases hq; rfl) ⟨by decide, by decide⟩ (fun ad => by rw [show (z_ftag 12 13) = 2 from rfl, z_rfp (x := 122) (by decide)]; exact ⟨rfl, rfl⟩) rfl ?_
  refine z_R_mu (μ1 := z_st _ 113 13 122) rfl ?_
  have fz18 := z_fz_st (i := 13) (v := 122) fz17 (show ((113 : Int) ≤ 122) by decide)
  refine z_aload_n dX12_init_81 rfl ?_
  refine z_bipush dX12_init_82 (by decide) ?_
  refine z_newI (N := 122) (n := 120) dX12_init_84 zq_168 (by decide +kernel) (by decide) (by decide) (by decide) (z_fitl (by decide)) (z_fits (by decide)) (z_fzi fz18) ?_
  have fz19 := z_fz_up fz18 (show 122 ≤ 123 by decide)
  refine z_R_ref (x := ((122 : Nat) : Int) + 1) (y := 123) rfl ?_
  refine z_putF (t := 2) dX12_init_86 zf_X12_39 ⟨by decide, by decide, by decide +kernel⟩ rfl rfl (fun q hq => by cases hq; rfl) ⟨by decide, by decide⟩ (fun ad => by rw [show (z_ftag 12 14) = 2 from rfl, z_rfp (x := 123) (by decide)]; exact ⟨rfl, rfl⟩) rfl ?_
  refine z_R_mu (μ1 := z_st _ 113 14 123) rfl ?_
  have fz20 := z_fz_st (i := 14) (v := 123) fz19 (show ((113 : Int) ≤ 123) by decide)
  refine z_aload_n dX12_init_89 rfl ?_
  refine z_bipush dX12_init_90 (by decide) ?_
  refine z_newI (N := 123) (n := 120) dX12_init_92 zq_168 (by decide +kernel) (by decide) (by decide) (by decide) (z_fitl (by decide)) (z_fits (by decide)) (z_fzi fz20) ?_
  have fz21 := z_fz_up fz20 (show 123 ≤ 124 by decide)
  refine z_R_ref (x := ((123 : Nat) : Int) + 1) (y := 124) rfl ?_
  refine z_putF (t := 2) dX12_init_94 zf_X12_42 ⟨by decide, by decide, by decide +kernel⟩ rfl rfl (fun q hq => by cases hq; rfl) ⟨by decide, by decide⟩ (fun ad => by rw [show (z_ftag 12 15) = 2 from rfl, z_rfp (x := 124) (by decide)]; exact ⟨rfl, rfl⟩) rfl ?_
  refine z_R_mu (μ1 := z_st _ 113 15 124) rfl ?_
  have fz22 := z_fz_st (i := 15) (v := 124) fz21 (show ((113 : Int) ≤ 124) by decide)
  refine z_aload_n dX12_init_97 rfl ?_
  refine z_bipush dX12_init_98 (by decide) ?_
  refine z_newI (N := 124) (n := 120) dX12_init_100 zq_168 (by decide +kernel) (by decide) (by decide) (by decide) (z_fitl (by decide)) (z_fits (by decide)) (z_fzi fz22) ?_
  have fz23 := z_fz_up fz22 (show 124 ≤ 125 by decide)
  refine z_R_ref (x := ((124 : Nat) : Int) + 1) (y := 125) rfl ?_
  refine z_putF (t := 2) dX12_init_102 zf_X12_45 ⟨by decide, by decide, by decide +kernel⟩ rfl rfl (fun q hq => by cases hq; rfl) ⟨by decide, by decide⟩ (fun ad => by rw [show (z_ftag 12 16) = 2 from rfl, z_rfp (x := 125) (by decide)]; exact ⟨rfl, rfl⟩) rfl ?_
  refine z_R_mu (μ1 := z_st _ 113 16 125) rfl ?_
  have fz24 := z_fz_st (i := 16) (v := 125) fz23 (show ((113 : Int) ≤ 125) by decide)
  refine z_aload_n dX12_init_105 rfl ?_
  refine z_bipush dX12_init_106 (by decide) ?_
  refine z_newI (N := 125) (n := 120) dX12_init_108 zq_168 (by decide +kernel) (by decide) (by decide) (by decide) (z_fitl (by decide)) (z_fits (by decide)) (z_fzi fz24) ?_
  have fz25 := z_fz_up fz24 (show 125 ≤ 126 by decide)
  refine z_R_ref (x := ((125 : Nat) : Int) + 1) (y := 126) rfl ?_
  refine z_putF (t := 2) dX12_init_110 zf_X12_48 ⟨by decide, by decide, by decide +kernel⟩ rfl rfl (fun q hq => by cases hq; rfl) ⟨by decide, by decide⟩ (fun ad => by rw [show (z_ftag 12 17) = 2 from rfl, z_rfp (x := 126) (by decide)]; exact ⟨rfl, rfl⟩) rfl ?_
  refine z_R_mu (μ1 := z_st _ 113 17 126) rfl ?_
  have fz26 := z_fz_st (i := 17) (v := 126) fz25 (show ((113 : Int) ≤ 126) by decide)
  refine z_aload_n dX12_init_113 rfl ?_
  refine z_bipush dX12_init_114 (by decide) ?_
  refine z_newI (N := 126) (n := 60) dX12_init_116 zq_168 (by decide +kernel) (by decide) (by decide) (by decide) (z_fitl (by decide)) (z_fits (by decide)) (z_fzi fz26) ?_
  have fz27 := z_fz_up fz26 (show 126 ≤ 127 by decide)
  refine z_R_ref (x := ((126 : Nat) : Int) + 1) (y := 127) rfl ?_
  refine z_putF (t := 2) dX12_init_118 zf_X12_51 ⟨by decide, by decide, by decide +kernel⟩ rfl rfl (fun q hq => by cases hq; rfl) ⟨by decide, by decide⟩ (fun ad => by rw [show (z_ftag 12 18) = 2 from rfl, z_rfp (x := 127) (by decide)]; exact ⟨rfl, rfl⟩) rfl ?_
  refine z_R_mu (μ1 := z_st _ 113 18 127) rfl ?_
  have fz28 := z_fz_st (i := 18) (v := 127) fz27 (show ((113 : Int) ≤ 127) by decide)
  refine z_aload_n dX12_init_121 rfl ?_
  refine z_bipush dX12_init_122 (by decide) ?_
  refine z_newI (N := 127) (n := 120) dX12_init_124 zq_168 (by decide +kernel) (by decide) (by decide) (by decide) (z_fitl (by decide)) (z_fits (by decide)) (z_fzi fz28) ?_
  have fz29 := z_fz_up fz28 (show 127 ≤ 128 by decide)
  refine z_R_ref (x := ((127 : Nat) : Int) + 1) (y := 128) rfl ?_
  refine z_putF (t := 2) dX12_init_126 zf_X12_54 ⟨by decide, by decide, by decide +kernel⟩ rfl rfl (fun q hq => by cases hq; rfl) ⟨by decide, by decide⟩ (fun ad => by rw [show (z_ftag 12 19) = 2 from rfl, z_rfp (x := 128) (by decide)]; exact ⟨rfl, rfl⟩) rfl ?_
  refine z_R_mu (μ1 := z_st _ 113 19 128) rfl ?_
  have fz30 := z_fz_st (i := 19) (v := 128) fz29 (show ((113 : Int) ≤ 128) by decide)
  refine z_aload_n dX12_init_129 rfl ?_
  refine z_bipush dX12_init_130 (by decide) ?_
  refine z_newI (N := 128) (n := 120) dX12_init_132 zq_168 (by decide +kernel) (by decide) (by decide) (by decide) (z_fitl (by decide)) (z_fits (by decide)) (z_fzi fz30) ?_
  have fz31 := z_fz_up fz30 (show 128 ≤ 129 by decide)
  refine z_R_ref (x := ((128 : Nat) : Int) + 1) (y := 129) rfl ?_
  refine z_putF (t := 2) dX12_init_134 zf_X12_57 ⟨by decide, by decide, by decide +kernel⟩ rfl rfl (fun q hq => by cases hq; rfl) ⟨by decide, by decide⟩ (fun ad => by rw [show (z_ftag 12 20) = 2 from rfl, z_rfp (x := 129) (by decide)]; exact ⟨rfl, rfl⟩) rfl ?_
  refine z_R_mu (μ1 := z_st _ 113 20 129) rfl ?_
  have fz32 := z_fz_st (i := 20) (v := 129) fz31 (show ((113 : Int) ≤ 129) by decide)
  refine z_aload_n dX12_init_137 rfl ?_
  refine z_bipush dX12_init_138 (by decide) ?_
  refine z_newZ (N := 129) (n := 30) dX12_init_140 zq_1353 (by decide +kernel) (by decide) (by decide) (by decide) (z_fitl (by decide)) (z_fits (by decide)) (z_fzi fz32) ?_
  have fz33 := z_fz_up fz32 (show 129 ≤ 130 by decide)
  refine z_R_ref (x := ((129 : Nat) : Int) + 1) (y := 130) rfl ?_
  refine z_putF (t := 2) dX12_init_142 zf_X12_60 ⟨by decide, by decide, by decide +kernel⟩ rfl rfl (fun q hq => by cases hq; rfl) ⟨by decide, by decide⟩ (fun ad => by rw [show (z_ftag 12 24) = 2 from rfl, z_rfp (x := 130) (by decide)]; exact ⟨rfl, rfl⟩) rfl ?_
  refine z_R_mu (μ1 := z_st _ 113 24 130) rfl ?_
  have fz34 := z_fz_st (i := 24) (v := 130) fz33 (show ((113 : Int) ≤ 130) by decide)
  refine z_aload_n dX12_init_145 rfl ?_
  refine z_bipush dX12_init_146 (by decide) ?_
  refine z_newI (N := 130) (n := 30) dX12_init_148 zq_168 (by decide +kernel) (by decide) (by decide) (by decide) (z_fitl (by decide)) (z_fits (by decide)) (z_fzi fz34) ?_
  have fz35 := z_fz_up fz34 (show 130 ≤ 131 by decide)
  refine z_R_ref (x := ((130 : Nat) : Int) + 1) (y := 131) rfl ?_
  refine z_putF (t := 2) dX12_init_150 zf_X12_63 ⟨by decide, by decide, by decide +kernel⟩ rfl rfl (fun q hq => by cases hq; rfl) ⟨by decide, by decide⟩ (fun ad => by rw [show (z_ftag 12 25) = 2 from rfl, z_rfp (x := 131) (by decide)]; exact ⟨rfl, rfl⟩) rfl ?_
  refine z_R_mu (μ1 := z_st _ 113 25 131) rfl ?_
  have fz36 := z_fz_st (i := 25) (v := 131) fz35 (show ((113 : Int) ≤ 131) by decide)
  refine z_aload_n dX12_init_153 rfl ?_
  refine z_bipush dX12_init_154 (by decide) ?_
  refine z_newI (N := 131) (n := 30) dX12_init_156 zq_168 (by decide +kernel) (by decide) (by decide) (by decide) (z_fitl (by decide)) (z_fits (by decide)) (z_fzi fz36) ?_
  have fz37 := z_fz_up fz36 (show 131 ≤ 132 by decide)
  refine z_R_ref (x := ((131 : Nat) : Int) + 1) (y := 132) rfl ?_
  refine z_putF (t := 2) dX12_init_158 zf_X12_66 ⟨by decide, by decide, by decide +kernel⟩ rfl rfl (fun q hq => by cases hq; rfl) ⟨by decide, by decide⟩ (fun ad => by rw [show (z_ftag 12 26) = 2 from rfl, z_rfp (x := 132) (by decide)]; exact ⟨rfl, rfl⟩) rfl ?_
  refine z_R_mu (μ1 := z_st _ 113 26 132) rfl ?_
  have fz38 := z_fz_st (i := 26) (v := 132) fz37 (show ((113 : Int) ≤ 132) by decide)
  refine z_aload_n dX12_init_161 rfl ?_
  refine z_bipush dX12_init_162 (by decide) ?_
  refine z_newI (N := 132) (n := 30) dX12_init_164 zq_168 (by decide +kernel) (by decide) (by decide) (by decide) (z_fitl (by decide)) (z_fits (by decide)) (z_fzi fz38) ?_
  have fz39 := z_fz_up fz38 (show 132 ≤ 133 by decide)
  refine z_R_ref (x := ((132 : Nat) : Int) + 1) (y := 133) rfl ?_
  refine z_putF (t := 2) dX12_init_166 zf_X12_69 ⟨by decide, by decide, by decide +kernel⟩ rfl rfl (fun q hq => by cases hq; rfl) ⟨by decide, by decide⟩ (fun ad => by rw [show (z_ftag 12 27) = 2 from rfl, z_rfp (x := 133) (by decide)]; exact ⟨rfl, rfl⟩) rfl ?_
  refine z_R_mu (μ1 := z_st _ 113 27 133) rfl ?_
  have fz40 := z_fz_st (i := 27) (v := 133) fz39 (show ((113 : Int) ≤ 133) by decide)
  refine z_aload_n dX12_init_169 rfl ?_
  refine z_bipush dX12_init_170 (by decide) ?_
  refine z_newZ (N := 133) (n := 30) dX12_init_172 zq_1353 (by decide +kernel) (by decide) (by decide) (by decide) (z_fitl (by decide)) (z_fits (by decide)) (z_fzi fz40) ?_
  have fz41 := z_fz_up fz40 (show 133 ≤ 134 by decide)
  refine z_R_ref (x := ((133 : Nat) : Int) + 1) (y := 134) rfl ?_
  refine z_putF (t := 2) dX12_init_174 zf_X12_72 ⟨by decide, by decide, by decide +kernel⟩ rfl rfl (fun q hq => by cases hq; rfl) ⟨by decide, by decide⟩ (fun ad => by rw [show (z_ftag 12 28) = 2 from rfl, z_rfp (x := 134) (by decide)]; exact ⟨rfl, rfl⟩) rfl ?_
  refine z_R_mu (μ1 := z_st _ 113 28 134) rfl ?_
  have fz42 := z_fz_st (i := 28) (v := 134) fz41 (show ((113 : Int) ≤ 134) by decide)
  refine z_aload_n dX12_init_177 rfl ?_
  refine z_bipush dX12_init_178 (by decide) ?_
  refine z_newI (N := 134) (n := 30) dX12_init_180 zq_168 (by decide +kernel) (by decide) (by decide) (by decide) (z_fitl (by decide)) (z_fits (by decide)) (z_fzi fz42) ?_
  have fz43 := z_fz_up fz42 (show 134 ≤ 135 by decide)
  refine z_R_ref (x := ((134 : Nat) : Int) + 1) (y := 135) rfl ?_
  refine z_putF (t := 2) dX12_init_182 zf_X12_75 ⟨by decide, by decide, by decide +kernel⟩ rfl rfl (fun q hq => by cases hq; rfl) ⟨by decide, by decide⟩ (fun ad => by rw [show (z_ftag 12 29) = 2 from rfl, z_rfp (x := 135) (by decide)]; exact ⟨rfl, rfl⟩) rfl ?_
  refine z_R_mu (μ1 := z_st _ 113 29 135) rfl ?_
  have fz44 := z_fz_st (i := 29) (v := 135) fz43 (show ((113 : Int) ≤ 135) by decide)
  refine z_aload_n dX12_init_185 rfl ?_
  refine z_bipush dX12_init_186 (by decide) ?_
  refine z_newI (N := 135) (n := 30) dX12_init_188 zq_168 (by decide +kernel) (by decide) (by decide) (by decide) (z_fitl (by decide)) (z_fits (by decide)) (z_fzi fz44) ?_
  have fz45 := z_fz_up fz44 (show 135 ≤ 136 by decide)
  refine z_R_ref (x := ((135 : Nat) : Int) + 1) (y := 136) rfl ?_
  refine z_putF (t := 2) dX12_init_190 zf_X12_78 ⟨by decide, by decide, by decide +kernel⟩ rfl rfl (fun q hq => by cases hq; rfl) ⟨by decide, by decide⟩ (fun ad => by rw [show (z_ftag 12 30) = 2 from rfl, z_rfp (x := 136) (by decide)]; exact ⟨rfl, rfl⟩) rfl ?_
  refine z_R_mu (μ1 := z_st _ 113 30 136) rfl ?_
  have fz46 := z_fz_st (i := 30) (v := 136) fz45 (show ((113 : Int) ≤ 136) by decide)
  refine z_aload_n dX12_init_193 rfl ?_
  refine z_bipush dX12_init_194 (by decide) ?_
  refine z_newI (N := 136) (n := 30) dX12_init_196 zq_168 (by decide +kernel) (by decide) (by decide) (by decide) (z_fitl (by decide)) (z_fits (by decide)) (z_fzi fz46) ?_
  have fz47 := z_fz_up fz46 (show 136 ≤ 137 by decide)
  refine z_R_ref (x := ((136 : Nat) : Int) + 1) (y := 137) rfl ?_
  refine z_putF (t := 2) dX12_init_198 zf_X12_81 ⟨by decide, by decide, by decide +kernel⟩ rfl rfl (fun q hq => by cases hq; rfl) ⟨by decide, by decide⟩ (fun ad => by rw [show (z_ftag 12 31) = 2 from rfl, z_rfp (x := 137) (by decide)]; exact ⟨rfl, rfl⟩) rfl ?_
  refine z_R_mu (μ1 := z_st _ 113 31 137) rfl ?_
  have fz48 := z_fz_st (i := 31) (v := 137) fz47 (show ((113 : Int) ≤ 137) by decide)
  refine z_aload_n dX12_init_201 rfl ?_
  refine z_bipush dX12_init_202 (by decide) ?_
  refine z_newI (N := 137) (n := 60) dX12_init_204 zq_168 (by decide +kernel) (by decide) (by decide) (by decide) (z_fitl (by decide)) (z_fits (by decide)) (z_fzi fz48) ?_
  have fz49 := z_fz_up fz48 (show 137 ≤ 138 by decide)
  refine z_R_ref (x := ((137 : Nat) : Int) + 1) (y := 138) rfl ?_
  refine z_putF (t := 2) dX12_init_206 zf_X12_84 ⟨by decide, by decide, by decide +kernel⟩ rfl rfl (fun q hq => by cases hq; rfl) ⟨by decide, by decide⟩ (fun ad => by rw [show (z_ftag 12 35) = 2 from rfl, z_rfp (x := 138) (by decide)]; exact ⟨rfl, rfl⟩) rfl ?_
  refine z_R_mu (μ1 := z_st _ 113 35 138) rfl ?_
  have fz50 := z_fz_st (i := 35) (v := 138) fz49 (show ((113 : Int) ≤ 138) by decide)
  refine z_aload_n dX12_init_209 rfl ?_
  refine z_bipush dX12_init_210 (by decide) ?_
  refine z_newZ (N := 138) (n := 30) dX12_init_212 zq_1353 (by decide +kernel) (by decide) (by decide) (by decide) (z_fitl (by decide)) (z_fits (by decide)) (z_fzi fz50) ?_
  have fz51 := z_fz_up fz50 (show 138 ≤ 139 by decide)
  refine z_R_ref (x := ((138 : Nat) : Int) + 1) (y := 139) rfl ?_
  refine z_putF (t := 2) dX12_init_214 zf_X12_87 ⟨by decide, by decide, by decide +kernel⟩ rfl rfl (fun q hq => by cases hq; rfl) ⟨by decide, by decide⟩ (fun ad => by rw [show (z_ftag 12 36) = 2 from rfl, z_rfp (x := 139) (by decide)]; exact ⟨rfl, rfl⟩) rfl ?_
  refine z_R_mu (μ1 := z_st _ 113 36 139) rfl ?_
  have fz52 := z_fz_st (i := 36) (v := 139) fz51 (show ((113 : Int) ≤ 139) by decide)
  refine z_aload_n dX12_init_217 rfl ?_
  refine z_bipush dX12_init_218 (by decide) ?_
  refine z_newI (N := 139) (n := 120) dX12_init_220 zq_168 (by decide +kernel) (by decide) (by decide) (by decide) (z_fitl (by decide)) (z_fits (by decide)) (z_fzi fz52) ?_
  have fz53 := z_fz_up fz52 (show 139 ≤ 140 by decide)
  refine z_R_ref (x := ((139 : Nat) : Int) + 1) (y := 140) rfl ?_
  refine z_putF (t := 2) dX12_init_222 zf_X12_90 ⟨by decide, by decide, by decide +kernel⟩ rfl rfl (fun q hq => by cases hq; rfl) ⟨by decide, by decide⟩ (fun ad => by rw [show (z_ftag 12 39) = 2 from rfl, z_rfp (x := 140) (by decide)]; exact ⟨rfl, rfl⟩) rfl ?_
  refine z_R_mu (μ1 := z_st _ 113 39 140) rfl ?_
  have fz54 := z_fz_st (i := 39) (v := 140) fz53 (show ((113 : Int) ≤ 140) by decide)
  refine z_aload_n dX12_init_225 rfl ?_
  refine z_bipush dX12_init_226 (by decide) ?_
  refine z_newI (N := 140) (n := 120) dX12_init_228 zq_168 (by decide +kernel) (by decide) (by decide) (by decide) (z_fitl (by decide)) (z_fits (by decide)) (z_fzi fz54) ?_
  have fz55 := z_fz_up fz54 (show 140 ≤ 141 by decide)
  refine z_R_ref (x := ((140 : Nat) : Int) + 1) (y := 141) rfl ?_
  refine z_putF (t := 2) dX12_init_230 zf_X12_93 ⟨by decide, by decide, by decide +kernel⟩ rfl rfl (fun q hq => by cases hq; rfl) ⟨by decide, by decide⟩ (fun ad => by rw [show (z_ftag 12 40) = 2 from rfl, z_rfp (x := 141) (by decide)]; exact ⟨rfl, rfl⟩) rfl ?_
  refine z_R_mu (μ1 := z_st _ 113 40 141) rfl ?_
  have fz56 := z_fz_st (i := 40) (v := 141) fz55 (show ((113 : Int) ≤ 141) by decide)
  refine z_aload_n dX12_init_233 rfl ?_
  refine z_bipush dX12_init_234 (by decide) ?_
  refine z_newI (N := 141) (n := 22) dX12_init_236 zq_168 (by decide +kernel) (by decide) (by decide) (by decide) (z_fitl (by decide)) (z_fits (by decide)) (z_fzi fz56) ?_
  have fz57 := z_fz_up fz56 (show 141 ≤ 142 by decide)
  refine z_R_ref (x := ((141 : Nat) : Int) + 1) (y := 142) rfl ?_
  refine z_putF (t := 2) dX12_init_238 zf_X12_96 ⟨by decide, by decide, by decide +kernel⟩ rfl rfl (fun q hq => by cases hq; rfl) ⟨by decide, by decide⟩ (fun ad => by rw [show (z_ftag 12 42) = 2 from rfl, z_rfp (x := 142) (by decide)]; exact ⟨rfl, rfl⟩) rfl ?_
  refine z_R_mu (μ1 := z_st _ 113 42 142) rfl ?_
  have fz58 := z_fz_st (i := 42) (v := 142) fz57 (show ((113 : Int) ≤ 142) by decide)
  refine z_aload_n dX12_init_241 rfl ?_
  refine z_bipush dX12_init_242 (by decide) ?_
  refine z_newI (N := 142) (n := 22) dX12_init_244 zq_168 (by decide +kernel) (by decide) (by decide) (by decide) (z_fitl (by decide)) (z_fits (by decide)) (z_fzi fz58) ?_
  have fz59 := z_fz_up fz58 (show 142 ≤ 143 by decide)
  refine z_R_ref (x := ((142 : Nat) : Int) + 1) (y := 143) rfl ?_
  refine z_putF (t := 2) dX12_init_246 zf_X12_99 ⟨by decide, by decide, by decide +kernel⟩ rfl rfl (fun q hq => by cases hq; rfl) ⟨by decide, by decide⟩ (fun ad => by rw [show (z_ftag 12 43) = 2 from rfl, z_rfp (x := 143) (by decide)]; exact ⟨rfl, rfl⟩) rfl ?_
  refine z_R_mu (μ1 := z_st _ 113 43 143) rfl ?_
  have fz60 := z_fz_st (i := 43) (v := 143) fz59 (show ((113 : Int) ≤ 143) by decide)
  refine z_aload_n dX12_init_249 rfl ?_
  refine z_bipush dX12_init_250 (by decide) ?_
  refine z_newI (N := 143) (n := 22) dX12_init_252 zq_168 (by decide +kernel) (by decide) (by decide) (by decide) (z_fitl (by decide)) (z_fits (by decide)) (z_fzi fz60) ?_
  have fz61 := z_fz_up fz60 (show 143 ≤ 144 by decide)
  refine z_R_ref (x := ((143 : Nat) : Int) + 1) (y := 144) rfl ?_
  refine z_putF (t := 2) dX12_init_254 zf_X12_102 ⟨by decide, by decide, by decide +kernel⟩ rfl rfl (fun q hq => by cases hq; rfl) ⟨by decide, by decide⟩ (fun ad => by rw [show (z_ftag 12 44) = 2 from rfl, z_rfp (x := 144) (by decide)]; exact ⟨rfl, rfl⟩) rfl ?_
  refine z_R_mu (μ1 := z_st _ 113 44 144) rfl ?_
  have fz62 := z_fz_st (i := 44) (v := 144) fz61 (show ((113 : Int) ≤ 144) by decide)
  refine z_aload_n dX12_init_257 rfl ?_
  refine z_bipush dX12_init_258 (by decide) ?_
  refine z_newI (N := 144) (n := 30) dX12_init_260 zq_168 (by decide +kernel) (by decide) (by decide) (by decide) (z_fitl (by decide)) (z_fits (by decide)) (z_fzi fz62) ?_
  have fz63 := z_fz_up fz62 (show 144 ≤ 145 by decide)
  refine z_R_ref (x := ((144 : Nat) : Int) + 1) (y := 145) rfl ?_
  refine z_putF (t := 2) dX12_init_262 zf_X12_105 ⟨by decide, by decide, by decide +kernel⟩ rfl rfl (fun q hq => by cases hq; rfl) ⟨by decide, by decide⟩ (fun ad => by rw [show (z_ftag 12 47) = 2 from rfl, z_rfp (x := 145) (by decide)]; exact ⟨rfl, rfl⟩) rfl ?_
  refine z_R_mu (μ1 := z_st _ 113 47 145) rfl ?_
  have fz64 := z_fz_st (i := 47) (v := 145) fz63 (show ((113 : Int) ≤ 145) by decide)
  refine z_aload_n dX12_init_265 rfl ?_
  refine z_bipush dX12_init_266 (by decide) ?_
  refine z_newI (N := 145) (n := 30) dX12_init_268 zq_168 (by decide +kernel) (by decide) (by decide) (by decide) (z_fitl (by decide)) (z_fits (by decide)) (z_fzi fz64) ?_
  have fz65 := z_fz_up fz64 (show 145 ≤ 146 by decide)
  refine z_R_ref (x := ((145 : Nat) : Int) + 1) (y := 146) rfl ?_
  refine z_putF (t := 2) dX12_init_270 zf_X12_108 ⟨by decide, by decide, by decide +kernel⟩ rfl rfl (fun q hq => by cases hq; rfl) ⟨by decide, by decide⟩ (fun ad => by rw [show (z_ftag 12 48) = 2 from rfl, z_rfp (x := 146) (by decide)]; exact ⟨rfl, rfl⟩) rfl ?_
  refine z_R_mu (μ1 := z_st _ 113 48 146) rfl ?_
  have fz66 := z_fz_st (i := 48) (v := 146) fz65 (show ((113 : Int) ≤ 146) by decide)
  refine z_aload_n dX12_init_273 rfl ?_
  refine z_bipush dX12_init_274 (by decide) ?_
  refine z_newI (N := 146) (n := 30) dX12_init_276 zq_168 (by decide +kernel) (by decide) (by decide) (by decide) (z_fitl (by decide)) (z_fits (by decide)) (z_fzi fz66) ?_
  have fz67 := z_fz_up fz66 (show 146 ≤ 147 by decide)
  refine z_R_ref (x := ((146 : Nat) : Int) + 1) (y := 147) rfl ?_
  refine z_putF (t := 2) dX12_init_278 zf_X12_111 ⟨by decide, by decide, by decide +kernel⟩ rfl rfl (fun q hq => by cases hq; rfl) ⟨by decide, by decide⟩ (fun ad => by rw [show (z_ftag 12 49) = 2 from rfl, z_rfp (x := 147) (by decide)]; exact ⟨rfl, rfl⟩) rfl ?_
  refine z_R_mu (μ1 := z_st _ 113 49 147) rfl ?_
  have fz68 := z_fz_st (i := 49) (v := 147) fz67 (show ((113 : Int) ≤ 147) by decide)
  refine z_iconst dX12_init_281 ⟨by decide, by decide⟩ ?_
  refine z_istore_n dX12_init_282 (by decide) (by decide) ?_
  refine z_R_lo (lo1 := [some (2, 113), some (0, 0)]) rfl ?_
  refine z_iload_n dX12_init_283 rfl ?_
  refine z_bipush dX12_init_284 (by decide) ?_
  refine z_icmp_ge (tgt := 305) dX12_init_286 (by decide) (fun q => absurd q (by decide)) (fun _ => ?_)
  refine z_aload_n dX12_init_289 rfl ?_
  refine z_getf (t := 2) dX12_init_290 zf_X12_9 ⟨by decide, by decide, by decide +kernel⟩ rfl ?_
  refine z_R_ref (x := (z_st (z_st (z_st (z_st (z_st (z_st (z_st (z_st (z_st (z_st (z_st (z_st (z_st (z_st (z_st (z_st (z_st (z_st (z_st (z_st (z_st (z_st (z_st (z_st (z_st (z_st (z_st (z_st (z_st (z_st (z_st (z_st (z_st (z_st μ 113 0 114) 113 1 115) 113 2 116) 113 3 117) 113 4 118) 113 5 119) 113 7 120) 113 12 121) 113 13 122) 113 14 123) 113 15 124) 113 16 125) 113 17 126) 113 18 127) 113 19 128) 113 20 129) 113 24 130) 113 25 131) 113 26 132) 113 27 133) 113 28 134) 113 29 135) 113 30 136) 113 31 137) 113 35 138) 113 36 139) 113 39 140) 113 40 141) 113 42 142) 113 43 143) 113 44 144) 113 47 145) 113 48 146) 113 49 147) 113 ((0 : Nat) : Int)) (y := 114) (by first | rfl | (simp [z_st, z_mm])) ?_
  refine z_bipush dX12_init_293 (by decide) ?_
  refine z_iload_n dX12_init_295 rfl ?_
  refine z_iadd dX12_init_296 ⟨by decide, by decide⟩ ?_
  refine z_R_sk (x := 83 + 0) (y := 83) rfl ?_
  refine z_iconst dX12_init_297 ⟨by decide, by decide⟩ ?_
  refine z_iast dX12_init_298 ⟨by decide, by decide, by decide +kernel⟩ (by decide) (by decide +kernel) ?_
  have fz69 := z_fz_st (i := 83) (v := 1) fz68 (show ((114 : Int) ≤ 147) by decide)
  refine z_iinc dX12_init_299 rfl (by decide) ⟨by decide, by decide⟩ ?_
  refine z_R_lo (lo1 := [some (2, 113), some (0, 1)]) rfl ?_
  refine z_goto (tgt := 283) dX12_init_302 (by decide) ?_
  refine z_iload_n dX12_init_283 rfl ?_
  refine z_bipush dX12_init_284 (by decide) ?_
  refine z_icmp_ge (tgt := 305) dX12_init_286 (by decide) (fun q => absurd q (by decide)) (fun _ => ?_)
  refine z_aload_n dX12_init_289 rfl ?_
  refine z_getf (t := 2) dX12_init_290 zf_X12_9 ⟨by decide, by decide, by decide +kernel⟩ rfl ?_
  refine z_R_ref (x := (z_st (z_st (z_st (z_st (z_st (z_st (z_st (z_st (z_st (z_st (z_st (z_st (z_st (z_st (z_st (z_st (z_st (z_st (z_st (z_st (z_st (z_st (z_st (z_st (z_st (z_st (z_st (z_st (z_st (z_st (z_st (z_st (z_st (z_st (z_st μ 113 0 114) 113 1 115) 113 2 116) 113 3 117) 113 4 118) 113 5 119) 113 7 120) 113 12 121) 113 13 122) 113 14 123) 113 15 124) 113 16 125) 113 17 126) 113 18 127) 113 19 128) 113 20 129) 113 24 130) 113 25 131) 113 26 132) 113 27 133) 113 28 134) 113 29 135) 113 30 136) 113 31 137) 113 35 138) 113 36 139) 113 39 140) 113 40 141) 113 42 142) 113 43 143) 113 44 144) 113 47 145) 113 48 146) 113 49 147) 114 83 1) 113 ((0 : Nat) : Int)) (y := 114) (by first | rfl | (simp [z_st, z_mm])) ?_
  refine z_bipush dX12_init_293 (by decide) ?_
  refine z_iload_n dX12_init_295 rfl ?_
  refine z_iadd dX12_init_296 ⟨by decide, by decide⟩ ?_
  refine z_R_sk (x := 83 + 1) (y := 84) rfl ?_
  refine z_iconst dX12_init_297 ⟨by decide, by decide⟩ ?_
  refine z_iast dX12_init_298 ⟨by decide, by decide, by decide +kernel⟩ (by decide) (by decide +kernel) ?_
  have fz70 := z_fz_st (i := 84) (v := 1) fz69 (show ((114 : Int) ≤ 147) by decide)
  refine z_iinc dX12_init_299 rfl (by decide) ⟨by decide, by decide⟩ ?_
  refine z_R_lo (lo1 := [some (2, 113), some (0, 2)]) rfl ?_
  refine z_goto (tgt := 283) dX12_init_302 (by decide) ?_
  refine z_iload_n dX12_init_283 rfl ?_
  refine z_bipush dX12_init_284 (by decide) ?_
  refine z_icmp_ge (tgt := 305) dX12_init_286 (by decide) (fun q => absurd q (by decide)) (fun _ => ?_)
  refine z_aload_n dX12_init_289 rfl ?_
  refine z_getf (t := 2) dX12_init_290 zf_X12_9 ⟨by decide, by decide, by decide +kernel⟩ rfl ?_
  refine z_R_ref (x := (z_st (z_st (z_st (z_st (z_st (z_st (z_st (z_st (z_st (z_st (z_st (z_st (z_st (z_st (z_st (z_st (z_st (z_st (z_st (z_st (z_st (z_st (z_st (z_st (z_st (z_st (z_st (z_st (z_st (z_st (z_st (z_st (z_st (z_st (z_st (z_st μ 113 0 114) 113 1 115) 113 2 116) 113 3 117) 113 4 118) 113 5 119) 113 7 120) 113 12 121) 113 13 122) 113 14 123) 113 15 124) 113 16 125) 113 17 126) 113 18 127) 113 19 128) 113 20 129) 113 24 130) 113 25 131) 113 26 132) 113 27 133) 113 28 134) 113 29 135) 113 30 136) 113 31 137) 113 35 138) 113 36 139) 113 39 140) 113 40 141) 113 42 142) 113 43 143) 113 44 144) 113 47 145) 113 48 146) 113 49 147) 114 83 1) 114 84 1) 113 ((0 : Nat) : Int)) (y := 114) (by first | rfl | (simp [z_st, z_mm])) ?_
  refine z_bipush dX12_init_293 (by decide) ?_
  refine z_iload_n dX12_init_295 rfl ?_
  refine z_iadd dX12_init_296 ⟨by decide, by decide⟩ ?_
  refine z_R_sk (x := 83 + 2) (y := 85) rfl ?_
  refine z_iconst dX12_init_297 ⟨by decide, by decide⟩ ?_
  refine z_iast dX12_init_298 ⟨by decide, by decide, by decide +kernel⟩ (by decide) (by decide +kernel) ?_
  have fz71 := z_fz_st (i := 85) (v := 1) fz70 (show ((114 : Int) ≤ 147) by decide)
  refine z_iinc dX12_init_299 rfl (by decide) ⟨by decide, by decide⟩ ?_
  refine z_R_lo (lo1 := [some (2, 113), some (0, 3)]) rfl ?_
  refine z_goto (tgt := 283) dX12_init_302 (by decide) ?_
  refine z_iload_n dX12_init_283 rfl ?_
  refine z_bipush dX12_init_284 (by decide) ?_
  refine z_icmp_ge (tgt := 305) dX12_init_286 (by decide) (fun q => absurd q (by decide)) (fun _ => ?_)
  refine z_aload_n dX12_init_289 rfl ?_
  refine z_getf (t := 2) dX12_init_290 zf_X12_9 ⟨by decide, by decide, by decide +kernel⟩ rfl ?_
  refine z_R_ref (x := (z_st (z_st (z_st (z_st (z_st (z_st (z_st (z_st (z_st (z_st (z_st (z_st (z_st (z_st (z_st (z_st (z_st (z_st (z_st (z_st (z_st (z_st (z_st (z_st (z_st (z_st (z_st (z_st (z_st (z_st (z_st (z_st (z_st (z_st (z_st (z_st (z_st μ 113 0 114) 113 1 115) 113 2 116) 113 3 117) 113 4 118) 113 5 119) 113 7 120) 113 12 121) 113 13 122) 113 14 123) 113 15 124) 113 16 125) 113 17 126) 113 18 127) 113 19 128) 113 20 129) 113 24 130) 113 25 131) 113 26 132) 113 27 133) 113 28 134) 113 29 135) 113 30 136) 113 31 137) 113 35 138) 113 36 139) 113 39 140) 113 40 141) 113 42 142) 113 43 143) 113 44 144) 113 47 145) 113 48 146) 113 49 147) 114 83 1) 114 84 1) 114 85 1) 113 ((0 : Nat) : Int)) (y := 114) (by first | rfl | (simp [z_st, z_mm])) ?_
  refine z_bipush dX12_init_293 (by decide) ?_
  refine z_iload_n dX12_init_295 rfl ?_
  refine z_iadd dX12_init_296 ⟨by decide, by decide⟩ ?_
  refine z_R_sk (x := 83 + 3) (y := 86) rfl ?_
  refine z_iconst dX12_init_297 ⟨by decide, by decide⟩ ?_
  refine z_iast dX12_init_298 ⟨by decide, by decide, by decide +kernel⟩ (by decide) (by decide +kernel) ?_
  have fz72 := z_fz_st (i := 86) (v := 1) fz71 (show ((114 : Int) ≤ 147) by decide)
  refine z_iinc dX12_init_299 rfl (by decide) ⟨by decide, by decide⟩ ?_
  refine z_R_lo (lo1 := [some (2, 113), some (0, 4)]) rfl ?_
  refine z_goto (tgt := 283) dX12_init_302 (by decide) ?_
  refine z_iload_n dX12_init_283 rfl ?_
  refine z_bipush dX12_init_284 (by decide) ?_
  refine z_icmp_ge (tgt := 305) dX12_init_286 (by decide) (fun q => absurd q (by decide)) (fun _ => ?_)
  refine z_aload_n dX12_init_289 rfl ?_
  refine z_getf (t := 2) dX12_init_290 zf_X12_9 ⟨by decide, by decide, by decide +kernel⟩ rfl ?_
  refine z_R_ref (x := (z_st (z_st (z_st (z_st (z_st (z_st (z_st (z_st (z_st (z_st (z_st (z_st (z_st (z_st (z_st (z_st (z_st (z_st (z_st (z_st (z_st (z_st (z_st (z_st (z_st (z_st (z_st (z_st (z_st (z_st (z_st (z_st (z_st (z_st (z_st (z_st (z_st (z_st μ 113 0 114) 113 1 115) 113 2 116) 113 3 117) 113 4 118) 113 5 119) 113 7 120) 113 12 121) 113 13 122) 113 14 123) 113 15 124) 113 16 125) 113 17 126) 113 18 127) 113 19 128) 113 20 129) 113 24 130) 113 25 131) 113 26 132) 113 27 133) 113 28 134) 113 29 135) 113 30 136) 113 31 137) 113 35 138) 113 36 139) 113 39 140) 113 40 141) 113 42 142) 113 43 143) 113 44 144) 113 47 145) 113 48 146) 113 49 147) 114 83 1) 114 84 1) 114 85 1) 114 86 1) 113 ((0 : Nat) : Int)) (y := 114) (by first | rfl | (simp [z_st, z_mm])) ?_
  refine z_bipush dX12_init_293 (by decide) ?_
  refine z_iload_n dX12_init_295 rfl ?_
  refine z_iadd dX12_init_296 ⟨by decide, by decide⟩ ?_
  refine z_R_sk (x := 83 + 4) (y := 87) rfl ?_
  refine z_iconst dX12_init_297 ⟨by decide, by decide⟩ ?_
  refine z_iast dX12_init_298 ⟨by decide, by decide, by decide +kernel⟩ (by decide) (by decide +kernel) ?_
  have fz73 := z_fz_st (i := 87) (v := 1) fz72 (show ((114 : Int) ≤ 147) by decide)
  refine z_iinc dX12_init_299 rfl (by decide) ⟨by decide, by decide⟩ ?_
  refine z_R_lo (lo1 := [some (2, 113), some (0, 5)]) rfl ?_
  refine z_goto (tgt := 283) dX12_init_302 (by decide) ?_
  refine z_iload_n dX12_init_283 rfl ?_
  refine z_bipush dX12_init_284 (by decide) ?_
  refine z_icmp_ge (tgt := 305) dX12_init_286 (by decide) (fun q => absurd q (by decide)) (fun _ => ?_)
  refine z_aload_n dX12_init_289 rfl ?_
  refine z_getf (t := 2) dX12_init_290 zf_X12_9 ⟨by decide, by decide, by decide +kernel⟩ rfl ?_
  refine z_R_ref (x := (z_st (z_st (z_st (z_st (z_st (z_st (z_st (z_st (z_st (z_st (z_st (z_st (z_st (z_st (z_st (z_st (z_st (z_st (z_st (z_st (z_st (z_st (z_st (z_st (z_st (z_st (z_st (z_st (z_st (z_st (z_st (z_st (z_st (z_st (z_st (z_st (z_st (z_st (z_st μ 113 0 114) 113 1 115) 113 2 116) 113 3 117) 113 4 118) 113 5 119) 113 7 120) 113 12 121) 113 13 122) 113 14 123) 113 15 124) 113 16 125) 113 17 126) 113 18 127) 113 19 128) 113 20 129) 113 24 130) 113 25 131) 113 26 132) 113 27 133) 113 28 134) 113 29 135) 113 30 136) 113 31 137) 113 35 138) 113 36 139) 113 39 140) 113 40 141) 113 42 142) 113 43 143) 113 44 144) 113 47 145) 113 48 146) 113 49 147) 114 83 1) 114 84 1) 114 85 1) 114 86 1) 114 87 1) 113 ((0 : Nat) : Int)) (y := 114) (by first | rfl | (simp [z_st, z_mm])) ?_
  refine z_bipush dX12_init_293 (by decide) ?_
  refine z_iload_n dX12_init_295 rfl ?_
  refine z_iadd dX12_init_296 ⟨by decide, by decide⟩ ?_
  refine z_R_sk (x := 83 + 5) (y := 88) rfl ?_
  refine z_iconst dX12_init_297 ⟨by decide, by decide⟩ ?_
  refine z_iast dX12_init_298 ⟨by decide, by decide, by decide +kernel⟩ (by decide) (by decide +kernel) ?_
  have fz74 := z_fz_st (i := 88) (v := 1) fz73 (show ((114 : Int) ≤ 147) by decide)
  refine z_iinc dX12_init_299 rfl (by decide) ⟨by decide, by decide⟩ ?_
  refine z_R_lo (lo1 := [some (2, 113), some (0, 6)]) rfl ?_
  refine z_goto (tgt := 283) dX12_init_302 (by decide) ?_
  refine z_iload_n dX12_init_283 rfl ?_
  refine z_bipush dX12_init_284 (by decide) ?_
  refine z_icmp_ge (tgt := 305) dX12_init_286 (by decide) (fun q => absurd q (by decide)) (fun _ => ?_)
  refine z_aload_n dX12_init_289 rfl ?_
  refine z_getf (t := 2) dX12_init_290 zf_X12_9 ⟨by decide, by decide, by decide +kernel⟩ rfl ?_
  refine z_R_ref (x := (z_st (z_st (z_st (z_st (z_st (z_st (z_st (z_st (z_st (z_st (z_st (z_st (z_st (z_st (z_st (z_st (z_st (z_st (z_st (z_st (z_st (z_st (z_st (z_st (z_st (z_st (z_st (z_st (z_st (z_st (z_st (z_st (z_st (z_st (z_st (z_st (z_st (z_st (z_st (z_st μ 113 0 114) 113 1 115) 113 2 116) 113 3 117) 113 4 118) 113 5 119) 113 7 120) 113 12 121) 113 13 122) 113 14 123) 113 15 124) 113 16 125) 113 17 126) 113 18 127) 113 19 128) 113 20 129) 113 24 130) 113 25 131) 113 26 132) 113 27 133) 113 28 134) 113 29 135) 113 30 136) 113 31 137) 113 35 138) 113 36 139) 113 39 140) 113 40 141) 113 42 142) 113 43 143) 113 44 144) 113 47 145) 113 48 146) 113 49 147) 114 83 1) 114 84 1) 114 85 1) 114 86 1) 114 87 1) 114 88 1) 113 ((0 : Nat) : Int)) (y := 114) (by first | rfl | (simp [z_st, z_mm])) ?_
  refine z_bipush dX12_init_293 (by decide) ?_
  refine z_iload_n dX12_init_295 rfl ?_
  refine z_iadd dX12_init_296 ⟨by decide, by decide⟩ ?_
  refine z_R_sk (x := 83 + 6) (y := 89) rfl ?_
  refine z_iconst dX12_init_297 ⟨by decide, by decide⟩ ?_
  refine z_iast dX12_init_298 ⟨by decide, by decide, by decide +kernel⟩ (by decide) (by decide +kernel) ?_
  have fz75 := z_fz_st (i := 89) (v := 1) fz74 (show ((114 : Int) ≤ 147) by decide)
  refine z_iinc dX12_init_299 rfl (by decide) ⟨by decide, by decide⟩ ?_
  refine z_R_lo (lo1 := [some (2, 113), some (0, 7)]) rfl ?_
  refine z_goto (tgt := 283) dX12_init_302 (by decide) ?_
  refine z_iload_n dX12_init_283 rfl ?_
  refine z_bipush dX12_init_284 (by decide) ?_
  refine z_icmp_ge (tgt := 305) dX12_init_286 (by decide) (fun q => absurd q (by decide)) (fun _ => ?_)
  refine z_aload_n dX12_init_289 rfl ?_
  refine z_getf (t := 2) dX12_init_290 zf_X12_9 ⟨by decide, by decide, by decide +kernel⟩ rfl ?_
  refine z_R_ref (x := (z_st (z_st (z_st (z_st (z_st (z_st (z_st (z_st (z_st (z_st (z_st (z_st (z_st (z_st (z_st (z_st (z_st (z_st (z_st (z_st (z_st (z_st (z_st (z_st (z_st (z_st (z_st (z_st (z_st (z_st (z_st (z_st (z_st (z_st (z_st (z_st (z_st (z_st (z_st (z_st (z_st μ 113 0 114) 113 1 115) 113 2 116) 113 3 117) 113 4 118) 113 5 119) 113 7 120) 113 12 121) 113 13 122) 113 14 123) 113 15 124) 113 16 125) 113 17 126) 113 18 127) 113 19 128) 113 20 129) 113 24 130) 113 25 131) 113 26 132) 113 27 133) 113 28 134) 113 29 135) 113 30 136) 113 31 137) 113 35 138) 113 36 139) 113 39 140) 113 40 141) 113 42 142) 113 43 143) 113 44 144) 113 47 145) 113 48 146) 113 49 147) 114 83 1) 114 84 1) 114 85 1) 114 86 1) 114 87 1) 114 88 1) 114 89 1) 113 ((0 : Nat) : Int)) (y := 114) (by first | rfl | (simp [z_st, z_mm])) ?_
  refine z_bipush dX12_init_293 (by decide) ?_
  refine z_iload_n dX12_init_295 rfl ?_
  refine z_iadd dX12_init_296 ⟨by decide, by decide⟩ ?_
  refine z_R_sk (x := 83 + 7) (y := 90) rfl ?_
  refine z_iconst dX12_init_297 ⟨by decide, by decide⟩ ?_
  refine z_iast dX12_init_298 ⟨by decide, by decide, by decide +kernel⟩ (by decide) (by decide +kernel) ?_
  have fz76 := z_fz_st (i := 90) (v := 1) fz75 (show ((114 : Int) ≤ 147) by decide)
  refine z_iinc dX12_init_299 rfl (by decide) ⟨by decide, by decide⟩ ?_
  refine z_R_lo (lo1 := [some (2, 113), some (0, 8)]) rfl ?_
  refine z_goto (tgt := 283) dX12_init_302 (by decide) ?_
  refine z_iload_n dX12_init_283 rfl ?_
  refine z_bipush dX12_init_284 (by decide) ?_
  refine z_icmp_ge (tgt := 305) dX12_init_286 (by decide) (fun q => absurd q (by decide)) (fun _ => ?_)
  refine z_aload_n dX12_init_289 rfl ?_
  refine z_getf (t := 2) dX12_init_290 zf_X12_9 ⟨by decide, by decide, by decide +kernel⟩ rfl ?_
  refine z_R_ref (x := (z_st (z_st (z_st (z_st (z_st (z_st (z_st (z_st (z_st (z_st (z_st (z_st (z_st (z_st (z_st (z_st (z_st (z_st (z_st (z_st (z_st (z_st (z_st (z_st (z_st (z_st (z_st (z_st (z_st (z_st (z_st (z_st (z_st (z_st (z_st (z_st (z_st (z_st (z_st (z_st (z_st (z_st μ 113 0 114) 113 1 115) 113 2 116) 113 3 117) 113 4 118) 113 5 119) 113 7 120) 113 12 121) 113 13 122) 113 14 123) 113 15 124) 113 16 125) 113 17 126) 113 18 127) 113 19 128) 113 20 129) 113 24 130) 113 25 131) 113 26 132) 113 27 133) 113 28 134) 113 29 135) 113 30 136) 113 31 137) 113 35 138) 113 36 139) 113 39 140) 113 40 141) 113 42 142) 113 43 143) 113 44 144) 113 47 145) 113 48 146) 113 49 147) 114 83 1) 114 84 1) 114 85 1) 114 86 1) 114 87 1) 114 88 1) 114 89 1) 114 90 1) 113 ((0 : Nat) : Int)) (y := 114) (by first | rfl | (simp [z_st, z_mm])) ?_
  refine z_bipush dX12_init_293 (by decide) ?_
  refine z_iload_n dX12_init_295 rfl ?_
  refine z_iadd dX12_init_296 ⟨by decide, by decide⟩ ?_
  refine z_R_sk (x := 83 + 8) (y := 91) rfl ?_
  refine z_iconst dX12_init_297 ⟨by decide, by decide⟩ ?_
  refine z_iast dX12_init_298 ⟨by decide, by decide, by decide +kernel⟩ (by decide) (by decide +kernel) ?_
  have fz77 := z_fz_st (i := 91) (v := 1) fz76 (show ((114 : Int) ≤ 147) by decide)
  refine z_iinc dX12_init_299 rfl (by decide) ⟨by decide, by decide⟩ ?_
  refine z_R_lo (lo1 := [some (2, 113), some (0, 9)]) rfl ?_
  refine z_goto (tgt := 283) dX12_init_302 (by decide) ?_
  refine z_iload_n dX12_init_283 rfl ?_
  refine z_bipush dX12_init_284 (by decide) ?_
  refine z_icmp_ge (tgt := 305) dX12_init_286 (by decide) (fun q => absurd q (by decide)) (fun _ => ?_)
  refine z_aload_n dX12_init_289 rfl ?_
  refine z_getf (t := 2) dX12_init_290 zf_X12_9 ⟨by decide, by decide, by decide +kernel⟩ rfl ?_
  refine z_R_ref (x := (z_st (z_st (z_st (z_st (z_st (z_st (z_st (z_st (z_st (z_st (z_st (z_st (z_st (z_st (z_st (z_st (z_st (z_st (z_st (z_st (z_st (z_st (z_st (z_st (z_st (z_st (z_st (z_st (z_st (z_st (z_st (z_st (z_st (z_st (z_st (z_st (z_st (z_st (z_st (z_st (z_st (z_st (z_st μ 113 0 114) 113 1 115) 113 2 116) 113 3 117) 113 4 118) 113 5 119) 113 7 120) 113 12 121) 113 13 122) 113 14 123) 113 15 124) 113 16 125) 113 17 126) 113 18 127) 113 19 128) 113 20 129) 113 24 130) 113 25 131) 113 26 132) 113 27 133) 113 28 134) 113 29 135) 113 30 136) 113 31 137) 113 35 138) 113 36 139) 113 39 140) 113 40 141) 113 42 142) 113 43 143) 113 44 144) 113 47 145) 113 48 146) 113 49 147) 114 83 1) 114 84 1) 114 85 1) 114 86 1) 114 87 1) 114 88 1) 114 89 1) 114 90 1) 114 91 1) 113 ((0 : Nat) : Int)) (y := 114) (by first | rfl | (simp [z_st, z_mm])) ?_
  refine z_bipush dX12_init_293 (by decide) ?_
  refine z_iload_n dX12_init_295 rfl ?_
  refine z_iadd dX12_init_296 ⟨by decide, by decide⟩ ?_
  refine z_R_sk (x := 83 + 9) (y := 92) rfl ?_
  refine z_iconst dX12_init_297 ⟨by decide, by decide⟩ ?_
  refine z_iast dX12_init_298 ⟨by decide, by decide, by decide +kernel⟩ (by decide) (by decide +kernel) ?_
  have fz78 := z_fz_st (i := 92) (v := 1) fz77 (show ((114 : Int) ≤ 147) by decide)
  refine z_iinc dX12_init_299 rfl (by decide) ⟨by decide, by decide⟩ ?_
  refine z_R_lo (lo1 := [some (2, 113), some (0, 10)]) rfl ?_
  refine z_goto (tgt := 283) dX12_init_302 (by decide) ?_
  refine z_iload_n dX12_init_283 rfl ?_
  refine z_bipush dX12_init_284 (by decide) ?_
  refine z_icmp_ge (tgt := 305) dX12_init_286 (by decide) (fun q => absurd q (by decide)) (fun _ => ?_)
  refine z_aload_n dX12_init_289 rfl ?_
  refine z_getf (t := 2) dX12_init_290 zf_X12_9 ⟨by decide, by decide, by decide +kernel⟩ rfl ?_
  refine z_R_ref (x := (z_st (z_st (z_st (z_st (z_st (z_st (z_st (z_st (z_st (z_st (z_st (z_st (z_st (z_st (z_st (z_st (z_st (z_st (z_st (z_st (z_st (z_st (z_st (z_st (z_st (z_st (z_st (z_st (z_st (z_st (z_st (z_st (z_st (z_st (z_st (z_st (z_st (z_st (z_st (z_st (z_st (z_st (z_st (z_st μ 113 0 114) 113 1 115) 113 2 116) 113 3 117) 113 4 118) 113 5 119) 113 7 120) 113 12 121) 113 13 122) 113 14 123) 113 15 124) 113 16 125) 113 17 126) 113 18 127) 113 19 128) 113 20 129) 113 24 130) 113 25 131) 113 26 132) 113 27 133) 113 28 134) 113 29 135) 113 30 136) 113 31 137) 113 35 138) 113 36 139) 113 39 140) 113 40 141) 113 42 142) 113 43 143) 113 44 144) 113 47 145) 113 48 146) 113 49 147) 114 83 1) 114 84 1) 114 85 1) 114 86 1) 114 87 1) 114 88 1) 114 89 1) 114 90 1) 114 91 1) 114 92 1) 113 ((0 : Nat) : Int)) (y := 114) (by first | rfl | (simp [z_st, z_mm])) ?_
  refine z_bipush dX12_init_293 (by decide) ?_
  refine z_iload_n dX12_init_295 rfl ?_
  refine z_iadd dX12_init_296 ⟨by decide, by decide⟩ ?_
  refine z_R_sk (x := 83 + 10) (y := 93) rfl ?_
  refine z_iconst dX12_init_297 ⟨by decide, by decide⟩ ?_
  refine z_iast dX12_init_298 ⟨by decide, by decide, by decide +kernel⟩ (by decide) (by decide +kernel) ?_
  have fz79 := z_fz_st (i := 93) (v := 1) fz78 (show ((114 : Int) ≤ 147) by decide)
  refine z_iinc dX12_init_299 rfl (by decide) ⟨by decide, by decide⟩ ?_
  refine z_R_lo (lo1 := [some (2, 113), some (0, 11)]) rfl ?_
  refine z_goto (tgt := 283) dX12_init_302 (by decide) ?_
  refine z_iload_n dX12_init_283 rfl ?_
  refine z_bipush dX12_init_284 (by decide) ?_
  refine z_icmp_ge (tgt := 305) dX12_init_286 (by decide) (fun q => absurd q (by decide)) (fun _ => ?_)
  refine z_aload_n dX12_init_289 rfl ?_
  refine z_getf (t := 2) dX12_init_290 zf_X12_9 ⟨by decide, by decide, by decide +kernel⟩ rfl ?_
  refine z_R_ref (x := (z_st (z_st (z_st (z_st (z_st (z_st (z_st (z_st (z_st (z_st (z_st (z_st (z_st (z_st (z_st (z_st (z_st (z_st (z_st (z_st (z_st (z_st (z_st (z_st (z_st (z_st (z_st (z_st (z_st (z_st (z_st (z_st (z_st (z_st (z_st (z_st (z_st (z_st (z_st (z_st (z_st (z_st (z_st (z_st (z_st μ 113 0 114) 113 1 115) 113 2 116) 113 3 117) 113 4 118) 113 5 119) 113 7 120) 113 12 121) 113 13 122) 113 14 123) 113 15 124) 113 16 125) 113 17 126) 113 18 127) 113 19 128) 113 20 129) 113 24 130) 113 25 131) 113 26 132) 113 27 133) 113 28 134) 113 29 135) 113 30 136) 113 31 137) 113 35 138) 113 36 139) 113 39 140) 113 40 141) 113 42 142) 113 43 143) 113 44 144) 113 47 145) 113 48 146) 113 49 147) 114 83 1) 114 84 1) 114 85 1) 114 86 1) 114 87 1) 114 88 1) 114 89 1) 114 90 1) 114 91 1) 114 92 1) 114 93 1) 113 ((0 : Nat) : Int)) (y := 114) (by first | rfl | (simp [z_st, z_mm])) ?_
  refine z_bipush dX12_init_293 (by decide) ?_
  refine z_iload_n dX12_init_295 rfl ?_
  refine z_iadd dX12_init_296 ⟨by decide, by decide⟩ ?_
  refine z_R_sk (x := 83 + 11) (y := 94) rfl ?_
  refine z_iconst dX12_init_297 ⟨by decide, by decide⟩ ?_
  refine z_iast dX12_init_298 ⟨by decide, by decide, by decide +kernel⟩ (by decide) (by decide +kernel) ?_
  have fz80 := z_fz_st (i := 94) (v := 1) fz79 (show ((114 : Int) ≤ 147) by decide)
  refine z_iinc dX12_init_299 rfl (by decide) ⟨by decide, by decide⟩ ?_
  refine z_R_lo (lo1 := [some (2, 113), some (0, 12)]) rfl ?_
  refine z_goto (tgt := 283) dX12_init_302 (by decide) ?_
  refine z_iload_n dX12_init_283 rfl ?_
  refine z_bipush dX12_init_284 (by decide) ?_
  refine z_icmp_ge (tgt := 305) dX12_init_286 (by decide) (fun q => absurd q (by decide)) (fun _ => ?_)
  refine z_aload_n dX12_init_289 rfl ?_
  refine z_getf (t := 2) dX12_init_290 zf_X12_9 ⟨by decide, by decide, by decide +kernel⟩ rfl ?_
  refine z_R_ref (x := (z_st (z_st (z_st (z_st (z_st (z_st (z_st (z_st (z_st (z_st (z_st (z_st (z_st (z_st (z_st (z_st (z_st (z_st (z_st (z_st (z_st (z_st (z_st (z_st (z_st (z_st (z_st (z_st (z_st (z_st (z_st (z_st (z_st (z_st (z_st (z_st (z_st (z_st (z_st (z_st (z_st (z_st (z_st (z_st (z_st (z_st μ 113 0 114) 113 1 115) 113 2 116) 113 3 117) 113 4 118) 113 5 119) 113 7 120) 113 12 121) 113 13 122) 113 14 123) 113 15 124) 113 16 125) 113 17 126) 113 18 127) 113 19 128) 113 20 129) 113 24 130) 113 25 131) 113 26 132) 113 27 133) 113 28 134) 113 29 135) 113 30 136) 113 31 137) 113 35 138) 113 36 139) 113 39 140) 113 40 141) 113 42 142) 113 43 143) 113 44 144) 113 47 145) 113 48 146) 113 49 147) 114 83 1) 114 84 1) 114 85 1) 114 86 1) 114 87 1) 114 88 1) 114 89 1) 114 90 1) 114 91 1) 114 92 1) 114 93 1) 114 94 1) 113 ((0 : Nat) : Int)) (y := 114) (by first | rfl | (simp [z_st, z_mm])) ?_
  refine z_bipush dX12_init_293 (by decide) ?_
  refine z_iload_n dX12_init_295 rfl ?_
  refine z_iadd dX12_init_296 ⟨by decide, by decide⟩ ?_
  refine z_R_sk (x := 83 + 12) (y := 95) rfl ?_
  refine z_iconst dX12_init_297 ⟨by decide, by decide⟩ ?_
  refine z_iast dX12_init_298 ⟨by decide, by decide, by decide +kernel⟩ (by decide) (by decide +kernel) ?_
  have fz81 := z_fz_st (i := 95) (v := 1) fz80 (show ((114 : Int) ≤ 147) by decide)
  refine z_iinc dX12_init_299 rfl (by decide) ⟨by decide, by decide⟩ ?_
  refine z_R_lo (lo1 := [some (2, 113), some (0, 13)]) rfl ?_
  refine z_goto (tgt := 283) dX12_init_302 (by decide) ?_
  refine z_iload_n dX12_init_283 rfl ?_
  refine z_bipush dX12_init_284 (by decide) ?_
  refine z_icmp_ge (tgt := 305) dX12_init_286 (by decide) (fun q => absurd q (by decide)) (fun _ => ?_)
  refine z_aload_n dX12_init_289 rfl ?_
  refine z_getf (t := 2) dX12_init_290 zf_X12_9 ⟨by decide, by decide, by decide +kernel⟩ rfl ?_
  refine z_R_ref (x := (z_st (z_st (z_st (z_st (z_st (z_st (z_st (z_st (z_st (z_st (z_st (z_st (z_st (z_st (z_st (z_st (z_st (z_st (z_st (z_st (z_st (z_st (z_st (z_st (z_st (z_st (z_st (z_st (z_st (z_st (z_st (z_st (z_st (z_st (z_st (z_st (z_st (z_st (z_st (z_st (z_st (z_st (z_st (z_st (z_st (z_st (z_st μ 113 0 114) 113 1 115) 113 2 116) 113 3 117) 113 4 118) 113 5 119) 113 7 120) 113 12 121) 113 13 122) 113 14 123) 113 15 124) 113 16 125) 113 17 126) 113 18 127) 113 19 128) 113 20 129) 113 24 130) 113 25 131) 113 26 132) 113 27 133) 113 28 134) 113 29 135) 113 30 136) 113 31 137) 113 35 138) 113 36 139) 113 39 140) 113 40 141) 113 42 142) 113 43 143) 113 44 144) 113 47 145) 113 48 146) 113 49 147) 114 83 1) 114 84 1) 114 85 1) 114 86 1) 114 87 1) 114 88 1) 114 89 1) 114 90 1) 114 91 1) 114 92 1) 114 93 1) 114 94 1) 114 95 1) 113 ((0 : Nat) : Int)) (y := 114) (by first | rfl | (simp [z_st, z_mm])) ?_
  refine z_bipush dX12_init_293 (by decide) ?_
  refine z_iload_n dX12_init_295 rfl ?_
  refine z_iadd dX12_init_296 ⟨by decide, by decide⟩ ?_
  refine z_R_sk (x := 83 + 13) (y := 96) rfl ?_
  refine z_iconst dX12_init_297 ⟨by decide, by decide⟩ ?_
  refine z_iast dX12_init_298 ⟨by decide, by decide, by decide +kernel⟩ (by decide) (by decide +kernel) ?_
  have fz82 := z_fz_st (i := 96) (v := 1) fz81 (show ((114 : Int) ≤ 147) by decide)
  refine z_iinc dX12_init_299 rfl (by decide) ⟨by decide, by decide⟩ ?_
  refine z_R_lo (lo1 := [some (2, 113), some (0, 14)]) rfl ?_
  refine z_goto (tgt := 283) dX12_init_302 (by decide) ?_
  refine z_iload_n dX12_init_283 rfl ?_
  refine z_bipush dX12_init_284 (by decide) ?_
  refine z_icmp_ge (tgt := 305) dX12_init_286 (by decide) (fun q => absurd q (by decide)) (fun _ => ?_)
  refine z_aload_n dX12_init_289 rfl ?_
  refine z_getf (t := 2) dX12_init_290 zf_X12_9 ⟨by decide, by decide, by decide +kernel⟩ rfl ?_
  refine z_R_ref (x := (z_st (z_st (z_st (z_st (z_st (z_st (z_st (z_st (z_st (z_st (z_st (z_st (z_st (z_st (z_st (z_st (z_st (z_st (z_st (z_st (z_st (z_st (z_st (z_st (z_st (z_st (z_st (z_st (z_st (z_st (z_st (z_st (z_st (z_st (z_st (z_st (z_st (z_st (z_st (z_st (z_st (z_st (z_st (z_st (z_st (z_st (z_st (z_st μ 113 0 114) 113 1 115) 113 2 116) 113 3 117) 113 4 118) 113 5 119) 113 7 120) 113 12 121) 113 13 122) 113 14 123) 113 15 124) 113 16 125) 113 17 126) 113 18 127) 113 19 128) 113 20 129) 113 24 130) 113 25 131) 113 26 132) 113 27 133) 113 28 134) 113 29 135) 113 30 136) 113 31 137) 113 35 138) 113 36 139) 113 39 140) 113 40 141) 113 42 142) 113 43 143) 113 44 144) 113 47 145) 113 48 146) 113 49 147) 114 83 1) 114 84 1) 114 85 1) 114 86 1) 114 87 1) 114 88 1) 114 89 1) 114 90 1) 114 91 1) 114 92 1) 114 93 1) 114 94 1) 114 95 1) 114 96 1) 113 ((0 : Nat) : Int)) (y := 114) (by first | rfl | (simp [z_st, z_mm])) ?_
  refine z_bipush dX12_init_293 (by decide) ?_
  refine z_iload_n dX12_init_295 rfl ?_
  refine z_iadd dX12_init_296 ⟨by decide, by decide⟩ ?_
  refine z_R_sk (x := 83 + 14) (y := 97) rfl ?_
  refine z_iconst dX12_init_297 ⟨by decide, by decide⟩ ?_
  refine z_iast dX12_init_298 ⟨by decide, by decide, by decide +kernel⟩ (by decide) (by decide +kernel) ?_
  have fz83 := z_fz_st (i := 97) (v := 1) fz82 (show ((114 : Int) ≤ 147) by decide)
  refine z_iinc dX12_init_299 rfl (by decide) ⟨by decide, by decide⟩ ?_
  refine z_R_lo (lo1 := [some (2, 113), some (0, 15)]) rfl ?_
  refine z_goto (tgt := 283) dX12_init_302 (by decide) ?_
  refine z_iload_n dX12_init_283 rfl ?_
  refine z_bipush dX12_init_284 (by decide) ?_
  refine z_icmp_ge (tgt := 305) dX12_init_286 (by decide) (fun q => absurd q (by decide)) (fun _ => ?_)
  refine z_aload_n dX12_init_289 rfl ?_
  refine z_getf (t := 2) dX12_init_290 zf_X12_9 ⟨by decide, by decide, by decide +kernel⟩ rfl ?_
  refine z_R_ref (x := (z_st (z_st (z_st (z_st (z_st (z_st (z_st (z_st (z_st (z_st (z_st (z_st (z_st (z_st (z_st (z_st (z_st (z_st (z_st (z_st (z_st (z_st (z_st (z_st (z_st (z_st (z_st (z_st (z_st (z_st (z_st (z_st (z_st (z_st (z_st (z_st (z_st (z_st (z_st (z_st (z_st (z_st (z_st (z_st (z_st (z_st (z_st (z_st (z_st μ 113 0 114) 113 1 115) 113 2 116) 113 3 117) 113 4 118) 113 5 119) 113 7 120) 113 12 121) 113 13 122) 113 14 123) 113 15 124) 113 16 125) 113 17 126) 113 18 127) 113 19 128) 113 20 129) 113 24 130) 113 25 131) 113 26 132) 113 27 133) 113 28 134) 113 29 135) 113 30 136) 113 31 137) 113 35 138) 113 36 139) 113 39 140) 113 40 141) 113 42 142) 113 43 143) 113 44 144) 113 47 145) 113 48 146) 113 49 147) 114 83 1) 114 84 1) 114 85 1) 114 86 1) 114 87 1) 114 88 1) 114 89 1) 114 90 1) 114 91 1) 114 92 1) 114 93 1) 114 94 1) 114 95 1) 114 96 1) 114 97 1) 113 ((0 : Nat) : Int)) (y := 114) (by first | rfl | (simp [z_st, z_mm])) ?_
  refine z_bipush dX12_init_293 (by decide) ?_
  refine z_iload_n dX12_init_295 rfl ?_
  refine z_iadd dX12_init_296 ⟨by decide, by decide⟩ ?_
  refine z_R_sk (x := 83 + 15) (y := 98) rfl ?_
  refine z_iconst dX12_init_297 ⟨by decide, by decide⟩ ?_
  refine z_iast dX12_init_298 ⟨by decide, by decide, by decide +kernel⟩ (by decide) (by decide +kernel) ?_
  have fz84 := z_fz_st (i := 98) (v := 1) fz83 (show ((114 : Int) ≤ 147) by decide)
  refine z_iinc dX12_init_299 rfl (by decide) ⟨by decide, by decide⟩ ?_
  refine z_R_lo (lo1 := [some (2, 113), some (0, 16)]) rfl ?_
  refine z_goto (tgt := 283) dX12_init_302 (by decide) ?_
  refine z_iload_n dX12_init_283 rfl ?_
  refine z_bipush dX12_init_284 (by decide) ?_
  refine z_icmp_ge (tgt := 305) dX12_init_286 (by decide) (fun q => absurd q (by decide)) (fun _ => ?_)
  refine z_aload_n dX12_init_289 rfl ?_
  refine z_getf (t := 2) dX12_init_290 zf_X12_9 ⟨by decide, by decide, by decide +kernel⟩ rfl ?_
  refine z_R_ref (x := (z_st (z_st (z_st (z_st (z_st (z_st (z_st (z_st (z_st (z_st (z_st (z_st (z_st (z_st (z_st (z_st (z_st (z_st (z_st (z_st (z_st (z_st (z_st (z_st (z_st (z_st (z_st (z_st (z_st (z_st (z_st (z_st (z_st (z_st (z_st (z_st (z_st (z_st (z_st (z_st (z_st (z_st (z_st (z_st (z_st (z_st (z_st (z_st (z_st (z_st μ 113 0 114) 113 1 115) 113 2 116) 113 3 117) 113 4 118) 113 5 119) 113 7 120) 113 12 121) 113 13 122) 113 14 123) 113 15 124) 113 16 125) 113 17 126) 113 18 127) 113 19 128) 113 20 129) 113 24 130) 113 25 131) 113 26 132) 113 27 133) 113 28 134) 113 29 135) 113 30 136) 113 31 137) 113 35 138) 113 36 139) 113 39 140) 113 40 141) 113 42 142) 113 43 143) 113 44 144) 113 47 145) 113 48 146) 113 49 147) 114 83 1) 114 84 1) 114 85 1) 114 86 1) 114 87 1) 114 88 1) 114 89 1) 114 90 1) 114 91 1) 114 92 1) 114 93 1) 114 94 1) 114 95 1) 114 96 1) 114 97 1) 114 98 1) 113 ((0 : Nat) : Int)) (y := 114) (by first | rfl | (simp [z_st, z_mm])) ?_
  refine z_bipush dX12_init_293 (by decide) ?_
  refine z_iload_n dX12_init_295 rfl ?_
  refine z_iadd dX12_init_296 ⟨by decide, by decide⟩ ?_
  refine z_R_sk (x := 83 + 16) (y := 99) rfl ?_
  refine z_iconst dX12_init_297 ⟨by decide, by decide⟩ ?_
  refine z_iast dX12_init_298 ⟨by decide, by decide, by decide +kernel⟩ (by decide) (by decide +kernel) ?_
  have fz85 := z_fz_st (i := 99) (v := 1) fz84 (show ((114 : Int) ≤ 147) by decide)
  refine z_iinc dX12_init_299 rfl (by decide) ⟨by decide, by decide⟩ ?_
  refine z_R_lo (lo1 := [some (2, 113), some (0, 17)]) rfl ?_
  refine z_goto (tgt := 283) dX12_init_302 (by decide) ?_
  refine z_iload_n dX12_init_283 rfl ?_
  refine z_bipush dX12_init_284 (by decide) ?_
  refine z_icmp_ge (tgt := 305) dX12_init_286 (by decide) (fun q => absurd q (by decide)) (fun _ => ?_)
  refine z_aload_n dX12_init_289 rfl ?_
  refine z_getf (t := 2) dX12_init_290 zf_X12_9 ⟨by decide, by decide, by decide +kernel⟩ rfl ?_
  refine z_R_ref (x := (z_st (z_st (z_st (z_st (z_st (z_st (z_st (z_st (z_st (z_st (z_st (z_st (z_st (z_st (z_st (z_st (z_st (z_st (z_st (z_st (z_st (z_st (z_st (z_st (z_st (z_st (z_st (z_st (z_st (z_st (z_st (z_st (z_st (z_st (z_st (z_st (z_st (z_st (z_st (z_st (z_st (z_st (z_st (z_st (z_st (z_st (z_st (z_st (z_st (z_st (z_st μ 113 0 114) 113 1 115) 113 2 116) 113 3 117) 113 4 118) 113 5 119) 113 7 120) 113 12 121) 113 13 122) 113 14 123) 113 15 124) 113 16 125) 113 17 126) 113 18 127) 113 19 128) 113 20 129) 113 24 130) 113 25 131) 113 26 132) 113 27 133) 113 28 134) 113 29 135) 113 30 136) 113 31 137) 113 35 138) 113 36 139) 113 39 140) 113 40 141) 113 42 142) 113 43 143) 113 44 144) 113 47 145) 113 48 146) 113 49 147) 114 83 1) 114 84 1) 114 85 1) 114 86 1) 114 87 1) 114 88 1) 114 89 1) 114 90 1) 114 91 1) 114 92 1) 114 93 1) 114 94 1) 114 95 1) 114 96 1) 114 97 1) 114 98 1) 114 99 1) 113 ((0 : Nat) : Int)) (y := 114) (by first | rfl | (simp [z_st, z_mm])) ?_
  refine z_bipush dX12_init_293 (by decide) ?_
  refine z_iload_n dX12_init_295 rfl ?_
  refine z_iadd dX12_init_296 ⟨by decide, by decide⟩ ?_
  refine z_R_sk (x := 83 + 17) (y := 100) rfl ?_
  refine z_iconst dX12_init_297 ⟨by decide, by decide⟩ ?_
  refine z_iast dX12_init_298 ⟨by decide, by decide, by decide +kernel⟩ (by decide) (by decide +kernel) ?_
  have fz86 := z_fz_st (i := 100) (v := 1) fz85 (show ((114 : Int) ≤ 147) by decide)
  refine z_iinc dX12_init_299 rfl (by decide) ⟨by decide, by decide⟩ ?_
  refine z_R_lo (lo1 := [some (2, 113), some (0, 18)]) rfl ?_
  refine z_goto (tgt := 283) dX12_init_302 (by decide) ?_
  refine z_iload_n dX12_init_283 rfl ?_
  refine z_bipush dX12_init_284 (by decide) ?_
  refine z_icmp_ge (tgt := 305) dX12_init_286 (by decide) (fun q => absurd q (by decide)) (fun _ => ?_)
  refine z_aload_n dX12_init_289 rfl ?_
  refine z_getf (t := 2) dX12_init_290 zf_X12_9 ⟨by decide, by decide, by decide +kernel⟩ rfl ?_
  refine z_R_ref (x := (z_st (z_st (z_st (z_st (z_st (z_st (z_st (z_st (z_st (z_st (z_st (z_st (z_st (z_st (z_st (z_st (z_st (z_st (z_st (z_st (z_st (z_st (z_st (z_st (z_st (z_st (z_st (z_st (z_st (z_st (z_st (z_st (z_st (z_st (z_st (z_st (z_st (z_st (z_st (z_st (z_st (z_st (z_st (z_st (z_st (z_st (z_st (z_st (z_st (z_st (z_st (z_st μ 113 0 114) 113 1 115) 113 2 116) 113 3 117) 113 4 118) 113 5 119) 113 7 120) 113 12 121) 113 13 122) 113 14 123) 113 15 124) 113 16 125) 113 17 126) 113 18 127) 113 19 128) 113 20 129) 113 24 130) 113 25 131) 113 26 132) 113 27 133) 113 28 134) 113 29 135) 113 30 136) 113 31 137) 113 35 138) 113 36 139) 113 39 140) 113 40 141) 113 42 142) 113 43 143) 113 44 144) 113 47 145) 113 48 146) 113 49 147) 114 83 1) 114 84 1) 114 85 1) 114 86 1) 114 87 1) 114 88 1) 114 89 1) 114 90 1) 114 91 1) 114 92 1) 114 93 1) 114 94 1) 114 95 1) 114 96 1) 114 97 1) 114 98 1) 114 99 1) 114 100 1) 113 ((0 : Nat) : Int)) (y := 114) (by first | rfl | (simp [z_st, z_mm])) ?_
  refine z_bipush dX12_init_293 (by decide) ?_
  refine z_iload_n dX12_init_295 rfl ?_
  refine z_iadd dX12_init_296 ⟨by decide, by decide⟩ ?_
  refine z_R_sk (x := 83 + 18) (y := 101) rfl ?_
  refine z_iconst dX12_init_297 ⟨by decide, by decide⟩ ?_
  refine z_iast dX12_init_298 ⟨by decide, by decide, by decide +kernel⟩ (by decide) (by decide +kernel) ?_
  have fz87 := z_fz_st (i := 101) (v := 1) fz86 (show ((114 : Int) ≤ 147) by decide)
  refine z_iinc dX12_init_299 rfl (by decide) ⟨by decide, by decide⟩ ?_
  refine z_R_lo (lo1 := [some (2, 113), some (0, 19)]) rfl ?_
  refine z_goto (tgt := 283) dX12_init_302 (by decide) ?_
  refine z_iload_n dX12_init_283 rfl ?_
  refine z_bipush dX12_init_284 (by decide) ?_
  refine z_icmp_ge (tgt := 305) dX12_init_286 (by decide) (fun q => absurd q (by decide)) (fun _ => ?_)
  refine z_aload_n dX12_init_289 rfl ?_
  refine z_getf (t := 2) dX12_init_290 zf_X12_9 ⟨by decide, by decide, by decide +kernel⟩ rfl ?_
  refine z_R_ref (x := (z_st (z_st (z_st (z_st (z_st (z_st (z_st (z_st (z_st (z_st (z_st (z_st (z_st (z_st (z_st (z_st (z_st (z_st (z_st (z_st (z_st (z_st (z_st (z_st (z_st (z_st (z_st (z_st (z_st (z_st (z_st (z_st (z_st (z_st (z_st (z_st (z_st (z_st (z_st (z_st (z_st (z_st (z_st (z_st (z_st (z_st (z_st (z_st (z_st (z_st (z_st (z_st (z_st μ 113 0 114) 113 1 115) 113 2 116) 113 3 117) 113 4 118) 113 5 119) 113 7 120) 113 12 121) 113 13 122) 113 14 123) 113 15 124) 113 16 125) 113 17 126) 113 18 127) 113 19 128) 113 20 129) 113 24 130) 113 25 131) 113 26 132) 113 27 133) 113 28 134) 113 29 135) 113 30 136) 113 31 137) 113 35 138) 113 36 139) 113 39 140) 113 40 141) 113 42 142) 113 43 143) 113 44 144) 113 47 145) 113 48 146) 113 49 147) 114 83 1) 114 84 1) 114 85 1) 114 86 1) 114 87 1) 114 88 1) 114 89 1) 114 90 1) 114 91 1) 114 92 1) 114 93 1) 114 94 1) 114 95 1) 114 96 1) 114 97 1) 114 98 1) 114 99 1) 114 100 1) 114 101 1) 113 ((0 : Nat) : Int)) (y := 114) (by first | rfl | (simp [z_st, z_mm])) ?_
  refine z_bipush dX12_init_293 (by decide) ?_
  refine z_iload_n dX12_init_295 rfl ?_
  refine z_iadd dX12_init_296 ⟨by decide, by decide⟩ ?_
  refine z_R_sk (x := 83 + 19) (y := 102) rfl ?_
  refine z_iconst dX12_init_297 ⟨by decide, by decide⟩ ?_
  refine z_iast dX12_init_298 ⟨by decide, by decide, by decide +kernel⟩ (by decide) (by decide +kernel) ?_
  have fz88 := z_fz_st (i := 102) (v := 1) fz87 (show ((114 : Int) ≤ 147) by decide)
  refine z_iinc dX12_init_299 rfl (by decide) ⟨by decide, by decide⟩ ?_
  refine z_R_lo (lo1 := [some (2, 113), some (0, 20)]) rfl ?_
  refine z_goto (tgt := 283) dX12_init_302 (by decide) ?_
  refine z_iload_n dX12_init_283 rfl ?_
  refine z_bipush dX12_init_284 (by decide) ?_
  refine z_icmp_ge (tgt := 305) dX12_init_286 (by decide) (fun q => absurd q (by decide)) (fun _ => ?_)
  refine z_aload_n dX12_init_289 rfl ?_
  refine z_getf (t := 2) dX12_init_290 zf_X12_9 ⟨by decide, by decide, by decide +kernel⟩ rfl ?_
  refine z_R_ref (x := (z_st (z_st (z_st (z_st (z_st (z_st (z_st (z_st (z_st (z_st (z_st (z_st (z_st (z_st (z_st (z_st (z_st (z_st (z_st (z_st (z_st (z_st (z_st (z_st (z_st (z_st (z_st (z_st (z_st (z_st (z_st (z_st (z_st (z_st (z_st (z_st (z_st (z_st (z_st (z_st (z_st (z_st (z_st (z_st (z_st (z_st (z_st (z_st (z_st (z_st (z_st (z_st (z_st (z_st μ 113 0 114) 113 1 115) 113 2 116) 113 3 117) 113 4 118) 113 5 119) 113 7 120) 113 12 121) 113 13 122) 113 14 123) 113 15 124) 113 16 125) 113 17 126) 113 18 127) 113 19 128) 113 20 129) 113 24 130) 113 25 131) 113 26 132) 113 27 133) 113 28 134) 113 29 135) 113 30 136) 113 31 137) 113 35 138) 113 36 139) 113 39 140) 113 40 141) 113 42 142) 113 43 143) 113 44 144) 113 47 145) 113 48 146) 113 49 147) 114 83 1) 114 84 1) 114 85 1) 114 86 1) 114 87 1) 114 88 1) 114 89 1) 114 90 1) 114 91 1) 114 92 1) 114 93 1) 114 94 1) 114 95 1) 114 96 1) 114 97 1) 114 98 1) 114 99 1) 114 100 1) 114 101 1) 114 102 1) 113 ((0 : Nat) : Int)) (y := 114) (by first | rfl | (simp [z_st, z_mm])) ?_
  refine z_bipush dX12_init_293 (by decide) ?_
  refine z_iload_n dX12_init_295 rfl ?_
  refine z_iadd dX12_init_296 ⟨by decide, by decide⟩ ?_
  refine z_R_sk (x := 83 + 20) (y := 103) rfl ?_
  refine z_iconst dX12_init_297 ⟨by decide, by decide⟩ ?_
  refine z_iast dX12_init_298 ⟨by decide, by decide, by decide +kernel⟩ (by decide) (by decide +kernel) ?_
  have fz89 := z_fz_st (i := 103) (v := 1) fz88 (show ((114 : Int) ≤ 147) by decide)
  refine z_iinc dX12_init_299 rfl (by decide) ⟨by decide, by decide⟩ ?_
  refine z_R_lo (lo1 := [some (2, 113), some (0, 21)]) rfl ?_
  refine z_goto (tgt := 283) dX12_init_302 (by decide) ?_
  refine z_iload_n dX12_init_283 rfl ?_
  refine z_bipush dX12_init_284 (by decide) ?_
  refine z_icmp_ge (tgt := 305) dX12_init_286 (by decide) (fun q => absurd q (by decide)) (fun _ => ?_)
  refine z_aload_n dX12_init_289 rfl ?_
  refine z_getf (t := 2) dX12_init_290 zf_X12_9 ⟨by decide, by decide, by decide +kernel⟩ rfl ?_
  refine z_R_ref (x := (z_st (z_st (z_st (z_st (z_st (z_st (z_st (z_st (z_st (z_st (z_st (z_st (z_st (z_st (z_st (z_st (z_st (z_st (z_st (z_st (z_st (z_st (z_st (z_st (z_st (z_st (z_st (z_st (z_st (z_st (z_st (z_st (z_st (z_st (z_st (z_st (z_st (z_st (z_st (z_st (z_st (z_st (z_st (z_st (z_st (z_st (z_st (z_st (z_st (z_st (z_st (z_st (z_st (z_st (z_st μ 113 0 114) 113 1 115) 113 2 116) 113 3 117) 113 4 118) 113 5 119) 113 7 120) 113 12 121) 113 13 122) 113 14 123) 113 15 124) 113 16 125) 113 17 126) 113 18 127) 113 19 128) 113 20 129) 113 24 130) 113 25 131) 113 26 132) 113 27 133) 113 28 134) 113 29 135) 113 30 136) 113 31 137) 113 35 138) 113 36 139) 113 39 140) 113 40 141) 113 42 142) 113 43 143) 113 44 144) 113 47 145) 113 48 146) 113 49 147) 114 83 1) 114 84 1) 114 85 1) 114 86 1) 114 87 1) 114 88 1) 114 89 1) 114 90 1) 114 91 1) 114 92 1) 114 93 1) 114 94 1) 114 95 1) 114 96 1) 114 97 1) 114 98 1) 114 99 1) 114 100 1) 114 101 1) 114 102 1) 114 103 1) 113 ((0 : Nat) : Int)) (y := 114) (by first | rfl | (simp [z_st, z_mm])) ?_
  refine z_bipush dX12_init_293 (by decide) ?_
  refine z_iload_n dX12_init_295 rfl ?_
  refine z_iadd dX12_init_296 ⟨by decide, by decide⟩ ?_
  refine z_R_sk (x := 83 + 21) (y := 104) rfl ?_
  refine z_iconst dX12_init_297 ⟨by decide, by decide⟩ ?_
  refine z_iast dX12_init_298 ⟨by decide, by decide, by decide +kernel⟩ (by decide) (by decide +kernel) ?_
  have fz90 := z_fz_st (i := 104) (v := 1) fz89 (show ((114 : Int) ≤ 147) by decide)
  refine z_iinc dX12_init_299 rfl (by decide) ⟨by decide, by decide⟩ ?_
  refine z_R_lo (lo1 := [some (2, 113), some (0, 22)]) rfl ?_
  refine z_goto (tgt := 283) dX12_init_302 (by decide) ?_
  refine z_iload_n dX12_init_283 rfl ?_
  refine z_bipush dX12_init_284 (by decide) ?_
  refine z_icmp_ge (tgt := 305) dX12_init_286 (by decide) (fun q => absurd q (by decide)) (fun _ => ?_)
  refine z_aload_n dX12_init_289 rfl ?_
  refine z_getf (t := 2) dX12_init_290 zf_X12_9 ⟨by decide, by decide, by decide +kernel⟩ rfl ?_
  refine z_R_ref (x := (z_st (z_st (z_st (z_st (z_st (z_st (z_st (z_st (z_st (z_st (z_st (z_st (z_st (z_st (z_st (z_st (z_st (z_st (z_st (z_st (z_st (z_st (z_st (z_st (z_st (z_st (z_st (z_st (z_st (z_st (z_st (z_st (z_st (z_st (z_st (z_st (z_st (z_st (z_st (z_st (z_st (z_st (z_st (z_st (z_st (z_st (z_st (z_st (z_st (z_st (z_st (z_st (z_st (z_st (z_st (z_st μ 113 0 114) 113 1 115) 113 2 116) 113 3 117) 113 4 118) 113 5 119) 113 7 120) 113 12 121) 113 13 122) 113 14 123) 113 15 124) 113 16 125) 113 17 126) 113 18 127) 113 19 128) 113 20 129) 113 24 130) 113 25 131) 113 26 132) 113 27 133) 113 28 134) 113 29 135) 113 30 136) 113 31 137) 113 35 138) 113 36 139) 113 39 140) 113 40 141) 113 42 142) 113 43 143) 113 44 144) 113 47 145) 113 48 146) 113 49 147) 114 83 1) 114 84 1) 114 85 1) 114 86 1) 114 87 1) 114 88 1) 114 89 1) 114 90 1) 114 91 1) 114 92 1) 114 93 1) 114 94 1) 114 95 1) 114 96 1) 114 97 1) 114 98 1) 114 99 1) 114 100 1) 114 101 1) 114 102 1) 114 103 1) 114 104 1) 113 ((0 : Nat) : Int)) (y := 114) (by first | rfl | (simp [z_st, z_mm])) ?_
  refine z_bipush dX12_init_293 (by decide) ?_
  refine z_iload_n dX12_init_295 rfl ?_
  refine z_iadd dX12_init_296 ⟨by decide, by decide⟩ ?_
  refine z_R_sk (x := 83 + 22) (y := 105) rfl ?_
  refine z_iconst dX12_init_297 ⟨by decide, by decide⟩ ?_
  refine z_iast dX12_init_298 ⟨by decide, by decide, by decide +kernel⟩ (by decide) (by decide +kernel) ?_
  have fz91 := z_fz_st (i := 105) (v := 1) fz90 (show ((114 : Int) ≤ 147) by decide)
  refine z_iinc dX12_init_299 rfl (by decide) ⟨by decide, by decide⟩ ?_
  refine z_R_lo (lo1 := [some (2, 113), some (0, 23)]) rfl ?_
  refine z_goto (tgt := 283) dX12_init_302 (by decide) ?_
  refine z_iload_n dX12_init_283 rfl ?_
  refine z_bipush dX12_init_284 (by decide) ?_
  refine z_icmp_ge (tgt := 305) dX12_init_286 (by decide) (fun q => absurd q (by decide)) (fun _ => ?_)
  refine z_aload_n dX12_init_289 rfl ?_
  refine z_getf (t := 2) dX12_init_290 zf_X12_9 ⟨by decide, by decide, by decide +kernel⟩ rfl ?_
  refine z_R_ref (x := (z_st (z_st (z_st (z_st (z_st (z_st (z_st (z_st (z_st (z_st (z_st (z_st (z_st (z_st (z_st (z_st (z_st (z_st (z_st (z_st (z_st (z_st (z_st (z_st (z_st (z_st (z_st (z_st (z_st (z_st (z_st (z_st (z_st (z_st (z_st (z_st (z_st (z_st (z_st (z_st (z_st (z_st (z_st (z_st (z_st (z_st (z_st (z_st (z_st (z_st (z_st (z_st (z_st (z_st (z_st (z_st (z_st μ 113 0 114) 113 1 115) 113 2 116) 113 3 117) 113 4 118) 113 5 119) 113 7 120) 113 12 121) 113 13 122) 113 14 123) 113 15 124) 113 16 125) 113 17 126) 113 18 127) 113 19 128) 113 20 129) 113 24 130) 113 25 131) 113 26 132) 113 27 133) 113 28 134) 113 29 135) 113 30 136) 113 31 137) 113 35 138) 113 36 139) 113 39 140) 113 40 141) 113 42 142) 113 43 143) 113 44 144) 113 47 145) 113 48 146) 113 49 147) 114 83 1) 114 84 1) 114 85 1) 114 86 1) 114 87 1) 114 88 1) 114 89 1) 114 90 1) 114 91 1) 114 92 1) 114 93 1) 114 94 1) 114 95 1) 114 96 1) 114 97 1) 114 98 1) 114 99 1) 114 100 1) 114 101 1) 114 102 1) 114 103 1) 114 104 1) 114 105 1) 113 ((0 : Nat) : Int)) (y := 114) (by first | rfl | (simp [z_st, z_mm])) ?_
  refine z_bipush dX12_init_293 (by decide) ?_
  refine z_iload_n dX12_init_295 rfl ?_
  refine z_iadd dX12_init_296 ⟨by decide, by decide⟩ ?_
  refine z_R_sk (x := 83 + 23) (y := 106) rfl ?_
  refine z_iconst dX12_init_297 ⟨by decide, by decide⟩ ?_
  refine z_iast dX12_init_298 ⟨by decide, by decide, by decide +kernel⟩ (by decide) (by decide +kernel) ?_
  have fz92 := z_fz_st (i := 106) (v := 1) fz91 (show ((114 : Int) ≤ 147) by decide)
  refine z_iinc dX12_init_299 rfl (by decide) ⟨by decide, by decide⟩ ?_
  refine z_R_lo (lo1 := [some (2, 113), some (0, 24)]) rfl ?_
  refine z_goto (tgt := 283) dX12_init_302 (by decide) ?_
  refine z_iload_n dX12_init_283 rfl ?_
  refine z_bipush dX12_init_284 (by decide) ?_
  refine z_icmp_ge (tgt := 305) dX12_init_286 (by decide) (fun q => absurd q (by decide)) (fun _ => ?_)
  refine z_aload_n dX12_init_289 rfl ?_
  refine z_getf (t := 2) dX12_init_290 zf_X12_9 ⟨by decide, by decide, by decide +kernel⟩ rfl ?_
  refine z_R_ref (x := (z_st (z_st (z_st (z_st (z_st (z_st (z_st (z_st (z_st (z_st (z_st (z_st (z_st (z_st (z_st (z_st (z_st (z_st (z_st (z_st (z_st (z_st (z_st (z_st (z_st (z_st (z_st (z_st (z_st (z_st (z_st (z_st (z_st (z_st (z_st (z_st (z_st (z_st (z_st (z_st (z_st (z_st (z_st (z_st (z_st (z_st (z_st (z_st (z_st (z_st (z_st (z_st (z_st (z_st (z_st (z_st (z_st (z_st μ 113 0 114) 113 1 115) 113 2 116) 113 3 117) 113 4 118) 113 5 119) 113 7 120) 113 12 121) 113 13 122) 113 14 123) 113 15 124) 113 16 125) 113 17 126) 113 18 127) 113 19 128) 113 20 129) 113 24 130) 113 25 131) 113 26 132) 113 27 133) 113 28 134) 113 29 135) 113 30 136) 113 31 137) 113 35 138) 113 36 139) 113 39 140) 113 40 141) 113 42 142) 113 43 143) 113 44 144) 113 47 145) 113 48 146) 113 49 147) 114 83 1) 114 84 1) 114 85 1) 114 86 1) 114 87 1) 114 88 1) 114 89 1) 114 90 1) 114 91 1) 114 92 1) 114 93 1) 114 94 1) 114 95 1) 114 96 1) 114 97 1) 114 98 1) 114 99 1) 114 100 1) 114 101 1) 114 102 1) 114 103 1) 114 104 1) 114 105 1) 114 106 1) 113 ((0 : Nat) : Int)) (y := 114) (by first | rfl | (simp [z_st, z_mm])) ?_
  refine z_bipush dX12_init_293 (by decide) ?_
  refine z_iload_n dX12_init_295 rfl ?_
  refine z_iadd dX12_init_296 ⟨by decide, by decide⟩ ?_
  refine z_R_sk (x := 83 + 24) (y := 107) rfl ?_
  refine z_iconst dX12_init_297 ⟨by decide, by decide⟩ ?_
  refine z_iast dX12_init_298 ⟨by decide, by decide, by decide +kernel⟩ (by decide) (by decide +kernel) ?_
  have fz93 := z_fz_st (i := 107) (v := 1) fz92 (show ((114 : Int) ≤ 147) by decide)
  refine z_iinc dX12_init_299 rfl (by decide) ⟨by decide, by decide⟩ ?_
  refine z_R_lo (lo1 := [some (2, 113), some (0, 25)]) rfl ?_
  refine z_goto (tgt := 283) dX12_init_302 (by decide) ?_
  refine z_iload_n dX12_init_283 rfl ?_
  refine z_bipush dX12_init_284 (by decide) ?_
  refine z_icmp_ge (tgt := 305) dX12_init_286 (by decide) (fun q => absurd q (by decide)) (fun _ => ?_)
  refine z_aload_n dX12_init_289 rfl ?_
  refine z_getf (t := 2) dX12_init_290 zf_X12_9 ⟨by decide, by decide, by decide +kernel⟩ rfl ?_
  refine z_R_ref (x := (z_st (z_st (z_st (z_st (z_st (z_st (z_st (z_st (z_st (z_st (z_st (z_st (z_st (z_st (z_st (z_st (z_st (z_st (z_st (z_st (z_st (z_st (z_st (z_st (z_st (z_st (z_st (z_st (z_st (z_st (z_st (z_st (z_st (z_st (z_st (z_st (z_st (z_st (z_st (z_st (z_st (z_st (z_st (z_st (z_st (z_st (z_st (z_st (z_st (z_st (z_st (z_st (z_st (z_st (z_st (z_st (z_st (z_st (z_st μ 113 0 114) 113 1 115) 113 2 116) 113 3 117) 113 4 118) 113 5 119) 113 7 120) 113 12 121) 113 13 122) 113 14 123) 113 15 124) 113 16 125) 113 17 126) 113 18 127) 113 19 128) 113 20 129) 113 24 130) 113 25 131) 113 26 132) 113 27 133) 113 28 134) 113 29 135) 113 30 136) 113 31 137) 113 35 138) 113 36 139) 113 39 140) 113 40 141) 113 42 142) 113 43 143) 113 44 144) 113 47 145) 113 48 146) 113 49 147) 114 83 1) 114 84 1) 114 85 1) 114 86 1) 114 87 1) 114 88 1) 114 89 1) 114 90 1) 114 91 1) 114 92 1) 114 93 1) 114 94 1) 114 95 1) 114 96 1) 114 97 1) 114 98 1) 114 99 1) 114 100 1) 114 101 1) 114 102 1) 114 103 1) 114 104 1) 114 105 1) 114 106 1) 114 107 1) 113 ((0 : Nat) : Int)) (y := 114) (by first | rfl | (simp [z_st, z_mm])) ?_
  refine z_bipush dX12_init_293 (by decide) ?_
  refine z_iload_n dX12_init_295 rfl ?_
  refine z_iadd dX12_init_296 ⟨by decide, by decide⟩ ?_
  refine z_R_sk (x := 83 + 25) (y := 108) rfl ?_
  refine z_iconst dX12_init_297 ⟨by decide, by decide⟩ ?_
  refine z_iast dX12_init_298 ⟨by decide, by decide, by decide +kernel⟩ (by decide) (by decide +kernel) ?_
  have fz94 := z_fz_st (i := 108) (v := 1) fz93 (show ((114 : Int) ≤ 147) by decide)
  refine z_iinc dX12_init_299 rfl (by decide) ⟨by decide, by decide⟩ ?_
  refine z_R_lo (lo1 := [some (2, 113), some (0, 26)]) rfl ?_
  refine z_goto (tgt := 283) dX12_init_302 (by decide) ?_
  refine z_iload_n dX12_init_283 rfl ?_
  refine z_bipush dX12_init_284 (by decide) ?_
  refine z_icmp_ge (tgt := 305) dX12_init_286 (by decide) (fun q => absurd q (by decide)) (fun _ => ?_)
  refine z_aload_n dX12_init_289 rfl ?_
  refine z_getf (t := 2) dX12_init_290 zf_X12_9 ⟨by decide, by decide, by decide +kernel⟩ rfl ?_
  refine z_R_ref (x := (z_st (z_st (z_st (z_st (z_st (z_st (z_st (z_st (z_st (z_st (z_st (z_st (z_st (z_st (z_st (z_st (z_st (z_st (z_st (z_st (z_st (z_st (z_st (z_st (z_st (z_st (z_st (z_st (z_st (z_st (z_st (z_st (z_st (z_st (z_st (z_st (z_st (z_st (z_st (z_st (z_st (z_st (z_st (z_st (z_st (z_st (z_st (z_st (z_st (z_st (z_st (z_st (z_st (z_st (z_st (z_st (z_st (z_st (z_st (z_st μ 113 0 114) 113 1 115) 113 2 116) 113 3 117) 113 4 118) 113 5 119) 113 7 120) 113 12 121) 113 13 122) 113 14 123) 113 15 124) 113 16 125) 113 17 126) 113 18 127) 113 19 128) 113 20 129) 113 24 130) 113 25 131) 113 26 132) 113 27 133) 113 28 134) 113 29 135) 113 30 136) 113 31 137) 113 35 138) 113 36 139) 113 39 140) 113 40 141) 113 42 142) 113 43 143) 113 44 144) 113 47 145) 113 48 146) 113 49 147) 114 83 1) 114 84 1) 114 85 1) 114 86 1) 114 87 1) 114 88 1) 114 89 1) 114 90 1) 114 91 1) 114 92 1) 114 93 1) 114 94 1) 114 95 1) 114 96 1) 114 97 1) 114 98 1) 114 99 1) 114 100 1) 114 101 1) 114 102 1) 114 103 1) 114 104 1) 114 105 1) 114 106 1) 114 107 1) 114 108 1) 113 ((0 : Nat) : Int)) (y := 114) (by first | rfl | (simp [z_st, z_mm])) ?_
  refine z_bipush dX12_init_293 (by decide) ?_
  refine z_iload_n dX12_init_295 rfl ?_
  refine z_iadd dX12_init_296 ⟨by decide, by decide⟩ ?_
  refine z_R_sk (x := 83 + 26) (y := 109) rfl ?_
  refine z_iconst dX12_init_297 ⟨by decide, by decide⟩ ?_
  refine z_iast dX12_init_298 ⟨by decide, by decide, by decide +kernel⟩ (by decide) (by decide +kernel) ?_
  have fz95 := z_fz_st (i := 109) (v := 1) fz94 (show ((114 : Int) ≤ 147) by decide)
  refine z_iinc dX12_init_299 rfl (by decide) ⟨by decide, by decide⟩ ?_
  refine z_R_lo (lo1 := [some (2, 113), some (0, 27)]) rfl ?_
  refine z_goto (tgt := 283) dX12_init_302 (by decide) ?_
  refine z_iload_n dX12_init_283 rfl ?_
  refine z_bipush dX12_init_284 (by decide) ?_
  refine z_icmp_ge (tgt := 305) dX12_init_286 (by decide) (fun q => absurd q (by decide)) (fun _ => ?_)
  refine z_aload_n dX12_init_289 rfl ?_
  refine z_getf (t := 2) dX12_init_290 zf_X12_9 ⟨by decide, by decide, by decide +kernel⟩ rfl ?_
  refine z_R_ref (x := (z_st (z_st (z_st (z_st (z_st (z_st (z_st (z_st (z_st (z_st (z_st (z_st (z_st (z_st (z_st (z_st (z_st (z_st (z_st (z_st (z_st (z_st (z_st (z_st (z_st (z_st (z_st (z_st (z_st (z_st (z_st (z_st (z_st (z_st (z_st (z_st (z_st (z_st (z_st (z_st (z_st (z_st (z_st (z_st (z_st (z_st (z_st (z_st (z_st (z_st (z_st (z_st (z_st (z_st (z_st (z_st (z_st (z_st (z_st (z_st (z_st μ 113 0 114) 113 1 115) 113 2 116) 113 3 117) 113 4 118) 113 5 119) 113 7 120) 113 12 121) 113 13 122) 113 14 123) 113 15 124) 113 16 125) 113 17 126) 113 18 127) 113 19 128) 113 20 129) 113 24 130) 113 25 131) 113 26 132) 113 27 133) 113 28 134) 113 29 135) 113 30 136) 113 31 137) 113 35 138) 113 36 139) 113 39 140) 113 40 141) 113 42 142) 113 43 143) 113 44 144) 113 47 145) 113 48 146) 113 49 147) 114 83 1) 114 84 1) 114 85 1) 114 86 1) 114 87 1) 114 88 1) 114 89 1) 114 90 1) 114 91 1) 114 92 1) 114 93 1) 114 94 1) 114 95 1) 114 96 1) 114 97 1) 114 98 1) 114 99 1) 114 100 1) 114 101 1) 114 102 1) 114 103 1) 114 104 1) 114 105 1) 114 106 1) 114 107 1) 114 108 1) 114 109 1) 113 ((0 : Nat) : Int)) (y := 114) (by first | rfl | (simp [z_st, z_mm])) ?_
  refine z_bipush dX12_init_293 (by decide) ?_
  refine z_iload_n dX12_init_295 rfl ?_
  refine z_iadd dX12_init_296 ⟨by decide, by decide⟩ ?_
  refine z_R_sk (x := 83 + 27) (y := 110) rfl ?_
  refine z_iconst dX12_init_297 ⟨by decide, by decide⟩ ?_
  refine z_iast dX12_init_298 ⟨by decide, by decide, by decide +kernel⟩ (by decide) (by decide +kernel) ?_
  have fz96 := z_fz_st (i := 110) (v := 1) fz95 (show ((114 : Int) ≤ 147) by decide)
  refine z_iinc dX12_init_299 rfl (by decide) ⟨by decide, by decide⟩ ?_
  refine z_R_lo (lo1 := [some (2, 113), some (0, 28)]) rfl ?_
  refine z_goto (tgt := 283) dX12_init_302 (by decide) ?_
  refine z_iload_n dX12_init_283 rfl ?_
  refine z_bipush dX12_init_284 (by decide) ?_
  refine z_icmp_ge (tgt := 305) dX12_init_286 (by decide) (fun q => absurd q (by decide)) (fun _ => ?_)
  refine z_aload_n dX12_init_289 rfl ?_
  refine z_getf (t := 2) dX12_init_290 zf_X12_9 ⟨by decide, by decide, by decide +kernel⟩ rfl ?_
  refine z_R_ref (x := (z_st (z_st (z_st (z_st (z_st (z_st (z_st (z_st (z_st (z_st (z_st (z_st (z_st (z_st (z_st (z_st (z_st (z_st (z_st (z_st (z_st (z_st (z_st (z_st (z_st (z_st (z_st (z_st (z_st (z_st (z_st (z_st (z_st (z_st (z_st (z_st (z_st (z_st (z_st (z_st (z_st (z_st (z_st (z_st (z_st (z_st (z_st (z_st (z_st (z_st (z_st (z_st (z_st (z_st (z_st (z_st (z_st (z_st (z_st (z_st (z_st (z_st μ 113 0 114) 113 1 115) 113 2 116) 113 3 117) 113 4 118) 113 5 119) 113 7 120) 113 12 121) 113 13 122) 113 14 123) 113 15 124) 113 16 125) 113 17 126) 113 18 127) 113 19 128) 113 20 129) 113 24 130) 113 25 131) 113 26 132) 113 27 133) 113 28 134) 113 29 135) 113 30 136) 113 31 137) 113 35 138) 113 36 139) 113 39 140) 113 40 141) 113 42 142) 113 43 143) 113 44 144) 113 47 145) 113 48 146) 113 49 147) 114 83 1) 114 84 1) 114 85 1) 114 86 1) 114 87 1) 114 88 1) 114 89 1) 114 90 1) 114 91 1) 114 92 1) 114 93 1) 114 94 1) 114 95 1) 114 96 1) 114 97 1) 114 98 1) 114 99 1) 114 100 1) 114 101 1) 114 102 1) 114 103 1) 114 104 1) 114 105 1) 114 106 1) 114 107 1) 114 108 1) 114 109 1) 114 110 1) 113 ((0 : Nat) : Int)) (y := 114) (by first | rfl | (simp [z_st, z_mm])) ?_
  refine z_bipush dX12_init_293 (by decide) ?_
  refine z_iload_n dX12_init_295 rfl ?_
  refine z_iadd dX12_init_296 ⟨by decide, by decide⟩ ?_
  refine z_R_sk (x := 83 + 28) (y := 111) rfl ?_
  refine z_iconst dX12_init_297 ⟨by decide, by decide⟩ ?_
  refine z_iast dX12_init_298 ⟨by decide, by decide, by decide +kernel⟩ (by decide) (by decide +kernel) ?_
  have fz97 := z_fz_st (i := 111) (v := 1) fz96 (show ((114 : Int) ≤ 147) by decide)
  refine z_iinc dX12_init_299 rfl (by decide) ⟨by decide, by decide⟩ ?_
  refine z_R_lo (lo1 := [some (2, 113), some (0, 29)]) rfl ?_
  refine z_goto (tgt := 283) dX12_init_302 (by decide) ?_
  refine z_iload_n dX12_init_283 rfl ?_
  refine z_bipush dX12_init_284 (by decide) ?_
  refine z_icmp_ge (tgt := 305) dX12_init_286 (by decide) (fun q => absurd q (by decide)) (fun _ => ?_)
  refine z_aload_n dX12_init_289 rfl ?_
  refine z_getf (t := 2) dX12_init_290 zf_X12_9 ⟨by decide, by decide, by decide +kernel⟩ rfl ?_
  refine z_R_ref (x := (z_st (z_st (z_st (z_st (z_st (z_st (z_st (z_st (z_st (z_st (z_st (z_st (z_st (z_st (z_st (z_st (z_st (z_st (z_st (z_st (z_st (z_st (z_st (z_st (z_st (z_st (z_st (z_st (z_st (z_st (z_st (z_st (z_st (z_st (z_st (z_st (z_st (z_st (z_st (z_st (z_st (z_st (z_st (z_st (z_st (z_st (z_st (z_st (z_st (z_st (z_st (z_st (z_st (z_st (z_st (z_st (z_st (z_st (z_st (z_st (z_st (z_st (z_st μ 113 0 114) 113 1 115) 113 2 116) 113 3 117) 113 4 118) 113 5 119) 113 7 120) 113 12 121) 113 13 122) 113 14 123) 113 15 124) 113 16 125) 113 17 126) 113 18 127) 113 19 128) 113 20 129) 113 24 130) 113 25 131) 113 26 132) 113 27 133) 113 28 134) 113 29 135) 113 30 136) 113 31 137) 113 35 138) 113 36 139) 113 39 140) 113 40 141) 113 42 142) 113 43 143) 113 44 144) 113 47 145) 113 48 146) 113 49 147) 114 83 1) 114 84 1) 114 85 1) 114 86 1) 114 87 1) 114 88 1) 114 89 1) 114 90 1) 114 91 1) 114 92 1) 114 93 1) 114 94 1) 114 95 1) 114 96 1) 114 97 1) 114 98 1) 114 99 1) 114 100 1) 114 101 1) 114 102 1) 114 103 1) 114 104 1) 114 105 1) 114 106 1) 114 107 1) 114 108 1) 114 109 1) 114 110 1) 114 111 1) 113 ((0 : Nat) : Int)) (y := 114) (by first | rfl | (simp [z_st, z_mm])) ?_
  refine z_bipush dX12_init_293 (by decide) ?_
  refine z_iload_n dX12_init_295 rfl ?_
  refine z_iadd dX12_init_296 ⟨by decide, by decide⟩ ?_
  refine z_R_sk (x := 83 + 29) (y := 112) rfl ?_
  refine z_iconst dX12_init_297 ⟨by decide, by decide⟩ ?_
  refine z_iast dX12_init_298 ⟨by decide, by decide, by decide +kernel⟩ (by decide) (by decide +kernel) ?_
  have fz98 := z_fz_st (i := 112) (v := 1) fz97 (show ((114 : Int) ≤ 147) by decide)
  refine z_iinc dX12_init_299 rfl (by decide) ⟨by decide, by decide⟩ ?_
  refine z_R_lo (lo1 := [some (2, 113), some (0, 30)]) rfl ?_
  refine z_goto (tgt := 283) dX12_init_302 (by decide) ?_
  refine z_iload_n dX12_init_283 rfl ?_
  refine z_bipush dX12_init_284 (by decide) ?_
  refine z_icmp_ge (tgt := 305) dX12_init_286 (by decide) (fun q => absurd q (by decide)) (fun _ => ?_)
  refine z_aload_n dX12_init_289 rfl ?_
  refine z_getf (t := 2) dX12_init_290 zf_X12_9 ⟨by decide, by decide, by decide +kernel⟩ rfl ?_
  refine z_R_ref (x := (z_st (z_st (z_st (z_st (z_st (z_st (z_st (z_st (z_st (z_st (z_st (z_st (z_st (z_st (z_st (z_st (z_st (z_st (z_st (z_st (z_st (z_st (z_st (z_st (z_st (z_st (z_st (z_st (z_st (z_st (z_st (z_st (z_st (z_st (z_st (z_st (z_st (z_st (z_st (z_st (z_st (z_st (z_st (z_st (z_st (z_st (z_st (z_st (z_st (z_st (z_st (z_st (z_st (z_st (z_st (z_st (z_st (z_st (z_st (z_st (z_st (z_st (z_st (z_st μ 113 0 114) 113 1 115) 113 2 116) 113 3 117) 113 4 118) 113 5 119) 113 7 120) 113 12 121) 113 13 122) 113 14 123) 113 15 124) 113 16 125) 113 17 126) 113 18 127) 113 19 128) 113 20 129) 113 24 130) 113 25 131) 113 26 132) 113 27 133) 113 28 134) 113 29 135) 113 30 136) 113 31 137) 113 35 138) 113 36 139) 113 39 140) 113 40 141) 113 42 142) 113 43 143) 113 44 144) 113 47 145) 113 48 146) 113 49 147) 114 83 1) 114 84 1) 114 85 1) 114 86 1) 114 87 1) 114 88 1) 114 89 1) 114 90 1) 114 91 1) 114 92 1) 114 93 1) 114 94 1) 114 95 1) 114 96 1) 114 97 1) 114 98 1) 114 99 1) 114 100 1) 114 101 1) 114 102 1) 114 103 1) 114 104 1) 114 105 1) 114 106 1) 114 107 1) 114 108 1) 114 109 1) 114 110 1) 114 111 1) 114 112 1) 113 ((0 : Nat) : Int)) (y := 114) (by first | rfl | (simp [z_st, z_mm])) ?_
  refine z_bipush dX12_init_293 (by decide) ?_
  refine z_iload_n dX12_init_295 rfl ?_
  refine z_iadd dX12_init_296 ⟨by decide, by decide⟩ ?_
  refine z_R_sk (x := 83 + 30) (y := 113) rfl ?_
  refine z_iconst dX12_init_297 ⟨by decide, by decide⟩ ?_
  refine z_iast dX12_init_298 ⟨by decide, by decide, by decide +kernel⟩ (by decide) (by decide +kernel) ?_
  have fz99 := z_fz_st (i := 113) (v := 1) fz98 (show ((114 : Int) ≤ 147) by decide)
  refine z_iinc dX12_init_299 rfl (by decide) ⟨by decide, by decide⟩ ?_
  refine z_R_lo (lo1 := [some (2, 113), some (0, 31)]) rfl ?_
  refine z_goto (tgt := 283) dX12_init_302 (by decide) ?_
  refine z_iload_n dX12_init_283 rfl ?_
  refine z_bipush dX12_init_284 (by decide) ?_
  refine z_icmp_ge (tgt := 305) dX12_init_286 (by decide) (fun q => absurd q (by decide)) (fun _ => ?_)
  refine z_aload_n dX12_init_289 rfl ?_
  refine z_getf (t := 2) dX12_init_290 zf_X12_9 ⟨by decide, by decide, by decide +kernel⟩ rfl ?_
  refine z_R_ref (x := (z_st (z_st (z_st (z_st (z_st (z_st (z_st (z_st (z_st (z_st (z_st (z_st (z_st (z_st (z_st (z_st (z_st (z_st (z_st (z_st (z_st (z_st (z_st (z_st (z_st (z_st (z_st (z_st (z_st (z_st (z_st (z_st (z_st (z_st (z_st (z_st (z_st (z_st (z_st (z_st (z_st (z_st (z_st (z_st (z_st (z_st (z_st (z_st (z_st (z_st (z_st (z_st (z_st (z_st (z_st (z_st (z_st (z_st (z_st (z_st (z_st (z_st (z_st (z_st (z_st μ 113 0 114) 113 1 115) 113 2 116) 113 3 117) 113 4 118) 113 5 119) 113 7 120) 113 12 121) 113 13 122) 113 14 123) 113 15 124) 113 16 125) 113 17 126) 113 18 127) 113 19 128) 113 20 129) 113 24 130) 113 25 131) 113 26 132) 113 27 133) 113 28 134) 113 29 135) 113 30 136) 113 31 137) 113 35 138) 113 36 139) 113 39 140) 113 40 141) 113 42 142) 113 43 143) 113 44 144) 113 47 145) 113 48 146) 113 49 147) 114 83 1) 114 84 1) 114 85 1) 114 86 1) 114 87 1) 114 88 1) 114 89 1) 114 90 1) 114 91 1) 114 92 1) 114 93 1) 114 94 1) 114 95 1) 114 96 1) 114 97 1) 114 98 1) 114 99 1) 114 100 1) 114 101 1) 114 102 1) 114 103 1) 114 104 1) 114 105 1) 114 106 1) 114 107 1) 114 108 1) 114 109 1) 114 110 1) 114 111 1) 114 112 1) 114 113 1) 113 ((0 : Nat) : Int)) (y := 114) (by first | rfl | (simp [z_st, z_mm])) ?_
  refine z_bipush dX12_init_293 (by decide) ?_
  refine z_iload_n dX12_init_295 rfl ?_
  refine z_iadd dX12_init_296 ⟨by decide, by decide⟩ ?_
  refine z_R_sk (x := 83 + 31) (y := 114) rfl ?_
  refine z_iconst dX12_init_297 ⟨by decide, by decide⟩ ?_
  refine z_iast dX12_init_298 ⟨by decide, by decide, by decide +kernel⟩ (by decide) (by decide +kernel) ?_
  have fz100 := z_fz_st (i := 114) (v := 1) fz99 (show ((114 : Int) ≤ 147) by decide)
  refine z_iinc dX12_init_299 rfl (by decide) ⟨by decide, by decide⟩ ?_
  refine z_R_lo (lo1 := [some (2, 113), some (0, 32)]) rfl ?_
  refine z_goto (tgt := 283) dX12_init_302 (by decide) ?_
  refine z_iload_n dX12_init_283 rfl ?_
  refine z_bipush dX12_init_284 (by decide) ?_
  refine z_icmp_ge (tgt := 305) dX12_init_286 (by decide) (fun q => absurd q (by decide)) (fun _ => ?_)
  refine z_aload_n dX12_init_289 rfl ?_
  refine z_getf (t := 2) dX12_init_290 zf_X12_9 ⟨by decide, by decide, by decide +kernel⟩ rfl ?_
  refine z_R_ref (x := (z_st (z_st (z_st (z_st (z_st (z_st (z_st (z_st (z_st (z_st (z_st (z_st (z_st (z_st (z_st (z_st (z_st (z_st (z_st (z_st (z_st (z_st (z_st (z_st (z_st (z_st (z_st (z_st (z_st (z_st (z_st (z_st (z_st (z_st (z_st (z_st (z_st (z_st (z_st (z_st (z_st (z_st (z_st (z_st (z_st (z_st (z_st (z_st (z_st (z_st (z_st (z_st (z_st (z_st (z_st (z_st (z_st (z_st (z_st (z_st (z_st (z_st (z_st (z_st (z_st (z_st μ 113 0 114) 113 1 115) 113 2 116) 113 3 117) 113 4 118) 113 5 119) 113 7 120) 113 12 121) 113 13 122) 113 14 123) 113 15 124) 113 16 125) 113 17 126) 113 18 127) 113 19 128) 113 20 129) 113 24 130) 113 25 131) 113 26 132) 113 27 133) 113 28 134) 113 29 135) 113 30 136) 113 31 137) 113 35 138) 113 36 139) 113 39 140) 113 40 141) 113 42 142) 113 43 143) 113 44 144) 113 47 145) 113 48 146) 113 49 147) 114 83 1) 114 84 1) 114 85 1) 114 86 1) 114 87 1) 114 88 1) 114 89 1) 114 90 1) 114 91 1) 114 92 1) 114 93 1) 114 94 1) 114 95 1) 114 96 1) 114 97 1) 114 98 1) 114 99 1) 114 100 1) 114 101 1) 114 102 1) 114 103 1) 114 104 1) 114 105 1) 114 106 1) 114 107 1) 114 108 1) 114 109 1) 114 110 1) 114 111 1) 114 112 1) 114 113 1) 114 114 1) 113 ((0 : Nat) : Int)) (y := 114) (by first | rfl | (simp [z_st, z_mm])) ?_
  refine z_bipush dX12_init_293 (by decide) ?_
  refine z_iload_n dX12_init_295 rfl ?_
  refine z_iadd dX12_init_296 ⟨by decide, by decide⟩ ?_
  refine z_R_sk (x := 83 + 32) (y := 115) rfl ?_
  refine z_iconst dX12_init_297 ⟨by decide, by decide⟩ ?_
  refine z_iast dX12_init_298 ⟨by decide, by decide, by decide +kernel⟩ (by decide) (by decide +kernel) ?_
  have fz101 := z_fz_st (i := 115) (v := 1) fz100 (show ((114 : Int) ≤ 147) by decide)
  refine z_iinc dX12_init_299 rfl (by decide) ⟨by decide, by decide⟩ ?_
  refine z_R_lo (lo1 := [some (2, 113), some (0, 33)]) rfl ?_
  refine z_goto (tgt := 283) dX12_init_302 (by decide) ?_
  refine z_iload_n dX12_init_283 rfl ?_
  refine z_bipush dX12_init_284 (by decide) ?_
  refine z_icmp_ge (tgt := 305) dX12_init_286 (by decide) (fun q => absurd q (by decide)) (fun _ => ?_)
  refine z_aload_n dX12_init_289 rfl ?_
  refine z_getf (t := 2) dX12_init_290 zf_X12_9 ⟨by decide, by decide, by decide +kernel⟩ rfl ?_
  refine z_R_ref (x := (z_st (z_st (z_st (z_st (z_st (z_st (z_st (z_st (z_st (z_st (z_st (z_st (z_st (z_st (z_st (z_st (z_st (z_st (z_st (z_st (z_st (z_st (z_st (z_st (z_st (z_st (z_st (z_st (z_st (z_st (z_st (z_st (z_st (z_st (z_st (z_st (z_st (z_st (z_st (z_st (z_st (z_st (z_st (z_st (z_st (z_st (z_st (z_st (z_st (z_st (z_st (z_st (z_st (z_st (z_st (z_st (z_st (z_st (z_st (z_st (z_st (z_st (z_st (z_st (z_st (z_st (z_st μ 113 0 114) 113 1 115) 113 2 116) 113 3 117) 113 4 118) 113 5 119) 113 7 120) 113 12 121) 113 13 122) 113 14 123) 113 15 124) 113 16 125) 113 17 126) 113 18 127) 113 19 128) 113 20 129) 113 24 130) 113 25 131) 113 26 132) 113 27 133) 113 28 134) 113 29 135) 113 30 136) 113 31 137) 113 35 138) 113 36 139) 113 39 140) 113 40 141) 113 42 142) 113 43 143) 113 44 144) 113 47 145) 113 48 146) 113 49 147) 114 83 1) 114 84 1) 114 85 1) 114 86 1) 114 87 1) 114 88 1) 114 89 1) 114 90 1) 114 91 1) 114 92 1) 114 93 1) 114 94 1) 114 95 1) 114 96 1) 114 97 1) 114 98 1) 114 99 1) 114 100 1) 114 101 1) 114 102 1) 114 103 1) 114 104 1) 114 105 1) 114 106 1) 114 107 1) 114 108 1) 114 109 1) 114 110 1) 114 111 1) 114 112 1) 114 113 1) 114 114 1) 114 115 1) 113 ((0 : Nat) : Int)) (y := 114) (by first | rfl | (simp [z_st, z_mm])) ?_
  refine z_bipush dX12_init_293 (by decide) ?_
  refine z_iload_n dX12_init_295 rfl ?_
  refine z_iadd dX12_init_296 ⟨by decide, by decide⟩ ?_
  refine z_R_sk (x := 83 + 33) (y := 116) rfl ?_
  refine z_iconst dX12_init_297 ⟨by decide, by decide⟩ ?_
  refine z_iast dX12_init_298 ⟨by decide, by decide, by decide +kernel⟩ (by decide) (by decide +kernel) ?_
  have fz102 := z_fz_st (i := 116) (v := 1) fz101 (show ((114 : Int) ≤ 147) by decide)
  refine z_iinc dX12_init_299 rfl (by decide) ⟨by decide, by decide⟩ ?_
  refine z_R_lo (lo1 := [some (2, 113), some (0, 34)]) rfl ?_
  refine z_goto (tgt := 283) dX12_init_302 (by decide) ?_
  refine z_iload_n dX12_init_283 rfl ?_
  refine z_bipush dX12_init_284 (by decide) ?_
  refine z_icmp_ge (tgt := 305) dX12_init_286 (by decide) (fun q => absurd q (by decide)) (fun _ => ?_)
  refine z_aload_n dX12_init_289 rfl ?_
  refine z_getf (t := 2) dX12_init_290 zf_X12_9 ⟨by decide, by decide, by decide +kernel⟩ rfl ?_
  refine z_R_ref (x := (z_st (z_st (z_st (z_st (z_st (z_st (z_st (z_st (z_st (z_st (z_st (z_st (z_st (z_st (z_st (z_st (z_st (z_st (z_st (z_st (z_st (z_st (z_st (z_st (z_st (z_st (z_st (z_st (z_st (z_st (z_st (z_st (z_st (z_st (z_st (z_st (z_st (z_st (z_st (z_st (z_st (z_st (z_st (z_st (z_st (z_st (z_st (z_st (z_st (z_st (z_st (z_st (z_st (z_st (z_st (z_st (z_st (z_st (z_st (z_st (z_st (z_st (z_st (z_st (z_st (z_st (z_st (z_st μ 113 0 114) 113 1 115) 113 2 116) 113 3 117) 113 4 118) 113 5 119) 113 7 120) 113 12 121) 113 13 122) 113 14 123) 113 15 124) 113 16 125) 113 17 126) 113 18 127) 113 19 128) 113 20 129) 113 24 130) 113 25 131) 113 26 132) 113 27 133) 113 28 134) 113 29 135) 113 30 136) 113 31 137) 113 35 138) 113 36 139) 113 39 140) 113 40 141) 113 42 142) 113 43 143) 113 44 144) 113 47 145) 113 48 146) 113 49 147) 114 83 1) 114 84 1) 114 85 1) 114 86 1) 114 87 1) 114 88 1) 114 89 1) 114 90 1) 114 91 1) 114 92 1) 114 93 1) 114 94 1) 114 95 1) 114 96 1) 114 97 1) 114 98 1) 114 99 1) 114 100 1) 114 101 1) 114 102 1) 114 103 1) 114 104 1) 114 105 1) 114 106 1) 114 107 1) 114 108 1) 114 109 1) 114 110 1) 114 111 1) 114 112 1) 114 113 1) 114 114 1) 114 115 1) 114 116 1) 113 ((0 : Nat) : Int)) (y := 114) (by first | rfl | (simp [z_st, z_mm])) ?_
  refine z_bipush dX12_init_293 (by decide) ?_
  refine z_iload_n dX12_init_295 rfl ?_
  refine z_iadd dX12_init_296 ⟨by decide, by decide⟩ ?_
  refine z_R_sk (x := 83 + 34) (y := 117) rfl ?_
  refine z_iconst dX12_init_297 ⟨by decide, by decide⟩ ?_
  refine z_iast dX12_init_298 ⟨by decide, by decide, by decide +kernel⟩ (by decide) (by decide +kernel) ?_
  have fz103 := z_fz_st (i := 117) (v := 1) fz102 (show ((114 : Int) ≤ 147) by decide)
  refine z_iinc dX12_init_299 rfl (by decide) ⟨by decide, by decide⟩ ?_
  refine z_R_lo (lo1 := [some (2, 113), some (0, 35)]) rfl ?_
  refine z_goto (tgt := 283) dX12_init_302 (by decide) ?_
  refine z_iload_n dX12_init_283 rfl ?_
  refine z_bipush dX12_init_284 (by decide) ?_
  refine z_icmp_ge (tgt := 305) dX12_init_286 (by decide) (fun q => absurd q (by decide)) (fun _ => ?_)
  refine z_aload_n dX12_init_289 rfl ?_
  refine z_getf (t := 2) dX12_init_290 zf_X12_9 ⟨by decide, by decide, by decide +kernel⟩ rfl ?_
  refine z_R_ref (x := (z_st (z_st (z_st (z_st (z_st (z_st (z_st (z_st (z_st (z_st (z_st (z_st (z_st (z_st (z_st (z_st (z_st (z_st (z_st (z_st (z_st (z_st (z_st (z_st (z_st (z_st (z_st (z_st (z_st (z_st (z_st (z_st (z_st (z_st (z_st (z_st (z_st (z_st (z_st (z_st (z_st (z_st (z_st (z_st (z_st (z_st (z_st (z_st (z_st (z_st (z_st (z_st (z_st (z_st (z_st (z_st (z_st (z_st (z_st (z_st (z_st (z_st (z_st (z_st (z_st (z_st (z_st (z_st (z_st μ 113 0 114) 113 1 115) 113 2 116) 113 3 117) 113 4 118) 113 5 119) 113 7 120) 113 12 121) 113 13 122) 113 14 123) 113 15 124) 113 16 125) 113 17 126) 113 18 127) 113 19 128) 113 20 129) 113 24 130) 113 25 131) 113 26 132) 113 27 133) 113 28 134) 113 29 135) 113 30 136) 113 31 137) 113 35 138) 113 36 139) 113 39 140) 113 40 141) 113 42 142) 113 43 143) 113 44 144) 113 47 145) 113 48 146) 113 49 147) 114 83 1) 114 84 1) 114 85 1) 114 86 1) 114 87 1) 114 88 1) 114 89 1) 114 90 1) 114 91 1) 114 92 1) 114 93 1) 114 94 1) 114 95 1) 114 96 1) 114 97 1) 114 98 1) 114 99 1) 114 100 1) 114 101 1) 114 102 1) 114 103 1) 114 104 1) 114 105 1) 114 106 1) 114 107 1) 114 108 1) 114 109 1) 114 110 1) 114 111 1) 114 112 1) 114 113 1) 114 114 1) 114 115 1) 114 116 1) 114 117 1) 113 ((0 : Nat) : Int)) (y := 114) (by first | rfl | (simp [z_st, z_mm])) ?_
  refine z_bipush dX12_init_293 (by decide) ?_
  refine z_iload_n dX12_init_295 rfl ?_
  refine z_iadd dX12_init_296 ⟨by decide, by decide⟩ ?_
  refine z_R_sk (x := 83 + 35) (y := 118) rfl ?_
  refine z_iconst dX12_init_297 ⟨by decide, by decide⟩ ?_
  refine z_iast dX12_init_298 ⟨by decide, by decide, by decide +kernel⟩ (by decide) (by decide +kernel) ?_
  have fz104 := z_fz_st (i := 118) (v := 1) fz103 (show ((114 : Int) ≤ 147) by decide)
  refine z_iinc dX12_init_299 rfl (by decide) ⟨by decide, by decide⟩ ?_
  refine z_R_lo (lo1 := [some (2, 113), some (0, 36)]) rfl ?_
  refine z_goto (tgt := 283) dX12_init_302 (by decide) ?_
  refine z_iload_n dX12_init_283 rfl ?_
  refine z_bipush dX12_init_284 (by decide) ?_
  refine z_icmp_ge (tgt := 305) dX12_init_286 (by decide) (fun q => absurd q (by decide)) (fun _ => ?_)
  refine z_aload_n dX12_init_289 rfl ?_
  refine z_getf (t := 2) dX12_init_290 zf_X12_9 ⟨by decide, by decide, by decide +kernel⟩ rfl ?_
  refine z_R_ref (x := (z_st (z_st (z_st (z_st (z_st (z_st (z_st (z_st (z_st (z_st (z_st (z_st (z_st (z_st (z_st (z_st (z_st (z_st (z_st (z_st (z_st (z_st (z_st (z_st (z_st (z_st (z_st (z_st (z_st (z_st (z_st (z_st (z_st (z_st (z_st (z_st (z_st (z_st (z_st (z_st (z_st (z_st (z_st (z_st (z_st (z_st (z_st (z_st (z_st (z_st (z_st (z_st (z_st (z_st (z_st (z_st (z_st (z_st (z_st (z_st (z_st (z_st (z_st (z_st (z_st (z_st (z_st (z_st (z_st (z_st μ 113 0 114) 113 1 115) 113 2 116) 113 3 117) 113 4 118) 113 5 119) 113 7 120) 113 12 121) 113 13 122) 113 14 123) 113 15 124) 113 16 125) 113 17 126) 113 18 127) 113 19 128) 113 20 129) 113 24 130) 113 25 131) 113 26 132) 113 27 133) 113 28 134) 113 29 135) 113 30 136) 113 31 137) 113 35 138) 113 36 139) 113 39 140) 113 40 141) 113 42 142) 113 43 143) 113 44 144) 113 47 145) 113 48 146) 113 49 147) 114 83 1) 114 84 1) 114 85 1) 114 86 1) 114 87 1) 114 88 1) 114 89 1) 114 90 1) 114 91 1) 114 92 1) 114 93 1) 114 94 1) 114 95 1) 114 96 1) 114 97 1) 114 98 1) 114 99 1) 114 100 1) 114 101 1) 114 102 1) 114 103 1) 114 104 1) 114 105 1) 114 106 1) 114 107 1) 114 108 1) 114 109 1) 114 110 1) 114 111 1) 114 112 1) 114 113 1) 114 114 1) 114 115 1) 114 116 1) 114 117 1) 114 118 1) 113 ((0 : Nat) : Int)) (y := 114) (by first | rfl | (simp [z_st, z_mm])) ?_
  refine z_bipush dX12_init_293 (by decide) ?_
  refine z_iload_n dX12_init_295 rfl ?_
  refine z_iadd dX12_init_296 ⟨by decide, by decide⟩ ?_
  refine z_R_sk (x := 83 + 36) (y := 119) rfl ?_
  refine z_iconst dX12_init_297 ⟨by decide, by decide⟩ ?_
  refine z_iast dX12_init_298 ⟨by decide, by decide, by decide +kernel⟩ (by decide) (by decide +kernel) ?_
  have fz105 := z_fz_st (i := 119) (v := 1) fz104 (show ((114 : Int) ≤ 147) by decide)
  refine z_iinc dX12_init_299 rfl (by decide) ⟨by decide, by decide⟩ ?_
  refine z_R_lo (lo1 := [some (2, 113), some (0, 37)]) rfl ?_
  refine z_goto (tgt := 283) dX12_init_302 (by decide) ?_
  refine z_iload_n dX12_init_283 rfl ?_
  refine z_bipush dX12_init_284 (by decide) ?_
  refine z_icmp_ge (tgt := 305) dX12_init_286 (by decide) (fun q => absurd q (by decide)) (fun _ => ?_)
  refine z_aload_n dX12_init_289 rfl ?_
  refine z_getf (t := 2) dX12_init_290 zf_X12_9 ⟨by decide, by decide, by decide +kernel⟩ rfl ?_
  refine z_R_ref (x := (z_st (z_st (z_st (z_st (z_st (z_st (z_st (z_st (z_st (z_st (z_st (z_st (z_st (z_st (z_st (z_st (z_st (z_st (z_st (z_st (z_st (z_st (z_st (z_st (z_st (z_st (z_st (z_st (z_st (z_st (z_st (z_st (z_st (z_st (z_st (z_st (z_st (z_st (z_st (z_st (z_st (z_st (z_st (z_st (z_st (z_st (z_st (z_st (z_st (z_st (z_st (z_st (z_st (z_st (z_st (z_st (z_st (z_st (z_st (z_st (z_st (z_st (z_st (z_st (z_st (z_st (z_st (z_st (z_st (z_st (z_st μ 113 0 114) 113 1 115) 113 2 116) 113 3 117) 113 4 118) 113 5 119) 113 7 120) 113 12 121) 113 13 122) 113 14 123) 113 15 124) 113 16 125) 113 17 126) 113 18 127) 113 19 128) 113 20 129) 113 24 130) 113 25 131) 113 26 132) 113 27 133) 113 28 134) 113 29 135) 113 30 136) 113 31 137) 113 35 138) 113 36 139) 113 39 140) 113 40 141) 113 42 142) 113 43 143) 113 44 144) 113 47 145) 113 48 146) 113 49 147) 114 83 1) 114 84 1) 114 85 1) 114 86 1) 114 87 1) 114 88 1) 114 89 1) 114 90 1) 114 91 1) 114 92 1) 114 93 1) 114 94 1) 114 95 1) 114 96 1) 114 97 1) 114 98 1) 114 99 1) 114 100 1) 114 101 1) 114 102 1) 114 103 1) 114 104 1) 114 105 1) 114 106 1) 114 107 1) 114 108 1) 114 109 1) 114 110 1) 114 111 1) 114 112 1) 114 113 1) 114 114 1) 114 115 1) 114 116 1) 114 117 1) 114 118 1) 114 119 1) 113 ((0 : Nat) : Int)) (y := 114) (by first | rfl | (simp [z_st, z_mm])) ?_
  refine z_bipush dX12_init_293 (by decide) ?_
  refine z_iload_n dX12_init_295 rfl ?_
  refine z_iadd dX12_init_296 ⟨by decide, by decide⟩ ?_
  refine z_R_sk (x := 83 + 37) (y := 120) rfl ?_
  refine z_iconst dX12_init_297 ⟨by decide, by decide⟩ ?_
  refine z_iast dX12_init_298 ⟨by decide, by decide, by decide +kernel⟩ (by decide) (by decide +kernel) ?_
  have fz106 := z_fz_st (i := 120) (v := 1) fz105 (show ((114 : Int) ≤ 147) by decide)
  refine z_iinc dX12_init_299 rfl (by decide) ⟨by decide, by decide⟩ ?_
  refine z_R_lo (lo1 := [some (2, 113), some (0, 38)]) rfl ?_
  refine z_goto (tgt := 283) dX12_init_302 (by decide) ?_
  refine z_iload_n dX12_init_283 rfl ?_
  refine z_bipush dX12_init_284 (by decide) ?_
  refine z_icmp_ge (tgt := 305) dX12_init_286 (by decide) (fun q => absurd q (by decide)) (fun _ => ?_)
  refine z_aload_n dX12_init_289 rfl ?_
  refine z_getf (t := 2) dX12_init_290 zf_X12_9 ⟨by decide, by decide, by decide +kernel⟩ rfl ?_
  refine z_R_ref (x := (z_st (z_st (z_st (z_st (z_st (z_st (z_st (z_st (z_st (z_st (z_st (z_st (z_st (z_st (z_st (z_st (z_st (z_st (z_st (z_st (z_st (z_st (z_st (z_st (z_st (z_st (z_st (z_st (z_st (z_st (z_st (z_st (z_st (z_st (z_st (z_st (z_st (z_st (z_st (z_st (z_st (z_st (z_st (z_st (z_st (z_st (z_st (z_st (z_st (z_st (z_st (z_st (z_st (z_st (z_st (z_st (z_st (z_st (z_st (z_st (z_st (z_st (z_st (z_st (z_st (z_st (z_st (z_st (z_st (z_st (z_st (z_st μ 113 0 114) 113 1 115) 113 2 116) 113 3 117) 113 4 118) 113 5 119) 113 7 120) 113 12 121) 113 13 122) 113 14 123) 113 15 124) 113 16 125) 113 17 126) 113 18 127) 113 19 128) 113 20 129) 113 24 130) 113 25 131) 113 26 132) 113 27 133) 113 28 134) 113 29 135) 113 30 136) 113 31 137) 113 35 138) 113 36 139) 113 39 140) 113 40 141) 113 42 142) 113 43 143) 113 44 144) 113 47 145) 113 48 146) 113 49 147) 114 83 1) 114 84 1) 114 85 1) 114 86 1) 114 87 1) 114 88 1) 114 89 1) 114 90 1) 114 91 1) 114 92 1) 114 93 1) 114 94 1) 114 95 1) 114 96 1) 114 97 1) 114 98 1) 114 99 1) 114 100 1) 114 101 1) 114 102 1) 114 103 1) 114 104 1) 114 105 1) 114 106 1) 114 107 1) 114 108 1) 114 109 1) 114 110 1) 114 111 1) 114 112 1) 114 113 1) 114 114 1) 114 115 1) 114 116 1) 114 117 1) 114 118 1) 114 119 1) 114 120 1) 113 ((0 : Nat) : Int)) (y := 114) (by first | rfl | (simp [z_st, z_mm])) ?_
  refine z_bipush dX12_init_293 (by decide) ?_
  refine z_iload_n dX12_init_295 rfl ?_
  refine z_iadd dX12_init_296 ⟨by decide, by decide⟩ ?_
  refine z_R_sk (x := 83 + 38) (y := 121) rfl ?_
  refine z_iconst dX12_init_297 ⟨by decide, by decide⟩ ?_
  refine z_iast dX12_init_298 ⟨by decide, by decide, by decide +kernel⟩ (by decide) (by decide +kernel) ?_
  have fz107 := z_fz_st (i := 121) (v := 1) fz106 (show ((114 : Int) ≤ 147) by decide)
  refine z_iinc dX12_init_299 rfl (by decide) ⟨by decide, by decide⟩ ?_
  refine z_R_lo (lo1 := [some (2, 113), some (0, 39)]) rfl ?_
  refine z_goto (tgt := 283) dX12_init_302 (by decide) ?_
  refine z_iload_n dX12_init_283 rfl ?_
  refine z_bipush dX12_init_284 (by decide) ?_
  refine z_icmp_ge (tgt := 305) dX12_init_286 (by decide) (fun q => absurd q (by decide)) (fun _ => ?_)
  refine z_aload_n dX12_init_289 rfl ?_
  refine z_getf (t := 2) dX12_init_290 zf_X12_9 ⟨by decide, by decide, by decide +kernel⟩ rfl ?_
  refine z_R_ref (x := (z_st (z_st (z_st (z_st (z_st (z_st (z_st (z_st (z_st (z_st (z_st (z_st (z_st (z_st (z_st (z_st (z_st (z_st (z_st (z_st (z_st (z_st (z_st (z_st (z_st (z_st (z_st (z_st (z_st (z_st (z_st (z_st (z_st (z_st (z_st (z_st (z_st (z_st (z_st (z_st (z_st (z_st (z_st (z_st (z_st (z_st (z_st (z_st (z_st (z_st (z_st (z_st (z_st (z_st (z_st (z_st (z_st (z_st (z_st (z_st (z_st (z_st (z_st (z_st (z_st (z_st (z_st (z_st (z_st (z_st (z_st (z_st (z_st μ 113 0 114) 113 1 115) 113 2 116) 113 3 117) 113 4 118) 113 5 119) 113 7 120) 113 12 121) 113 13 122) 113 14 123) 113 15 124) 113 16 125) 113 17 126) 113 18 127) 113 19 128) 113 20 129) 113 24 130) 113 25 131) 113 26 132) 113 27 133) 113 28 134) 113 29 135) 113 30 136) 113 31 137) 113 35 138) 113 36 139) 113 39 140) 113 40 141) 113 42 142) 113 43 143) 113 44 144) 113 47 145) 113 48 146) 113 49 147) 114 83 1) 114 84 1) 114 85 1) 114 86 1) 114 87 1) 114 88 1) 114 89 1) 114 90 1) 114 91 1) 114 92 1) 114 93 1) 114 94 1) 114 95 1) 114 96 1) 114 97 1) 114 98 1) 114 99 1) 114 100 1) 114 101 1) 114 102 1) 114 103 1) 114 104 1) 114 105 1) 114 106 1) 114 107 1) 114 108 1) 114 109 1) 114 110 1) 114 111 1) 114 112 1) 114 113 1) 114 114 1) 114 115 1) 114 116 1) 114 117 1) 114 118 1) 114 119 1) 114 120 1) 114 121 1) 113 ((0 : Nat) : Int)) (y := 114) (by first | rfl | (simp [z_st, z_mm])) ?_
  refine z_bipush dX12_init_293 (by decide) ?_
  refine z_iload_n dX12_init_295 rfl ?_
  refine z_iadd dX12_init_296 ⟨by decide, by decide⟩ ?_
  refine z_R_sk (x := 83 + 39) (y := 122) rfl ?_
  refine z_iconst dX12_init_297 ⟨by decide, by decide⟩ ?_
  refine z_iast dX12_init_298 ⟨by decide, by decide, by decide +kernel⟩ (by decide) (by decide +kernel) ?_
  have fz108 := z_fz_st (i := 122) (v := 1) fz107 (show ((114 : Int) ≤ 147) by decide)
  refine z_iinc dX12_init_299 rfl (by decide) ⟨by decide, by decide⟩ ?_
  refine z_R_lo (lo1 := [some (2, 113), some (0, 40)]) rfl ?_
  refine z_goto (tgt := 283) dX12_init_302 (by decide) ?_
  refine z_iload_n dX12_init_283 rfl ?_
  refine z_bipush dX12_init_284 (by decide) ?_
  refine z_icmp_ge (tgt := 305) dX12_init_286 (by decide) (fun q => absurd q (by decide)) (fun _ => ?_)
  refine z_aload_n dX12_init_289 rfl ?_
  refine z_getf (t := 2) dX12_init_290 zf_X12_9 ⟨by decide, by decide, by decide +kernel⟩ rfl ?_
  refine z_R_ref (x := (z_st (z_st (z_st (z_st (z_st (z_st (z_st (z_st (z_st (z_st (z_st (z_st (z_st (z_st (z_st (z_st (z_st (z_st (z_st (z_st (z_st (z_st (z_st (z_st (z_st (z_st (z_st (z_st (z_st (z_st (z_st (z_st (z_st (z_st (z_st (z_st (z_st (z_st (z_st (z_st (z_st (z_st (z_st (z_st (z_st (z_st (z_st (z_st (z_st (z_st (z_st (z_st (z_st (z_st (z_st (z_st (z_st (z_st (z_st (z_st (z_st (z_st (z_st (z_st (z_st (z_st (z_st (z_st (z_st (z_st (z_st (z_st (z_st (z_st μ 113 0 114) 113 1 115) 113 2 116) 113 3 117) 113 4 118) 113 5 119) 113 7 120) 113 12 121) 113 13 122) 113 14 123) 113 15 124) 113 16 125) 113 17 126) 113 18 127) 113 19 128) 113 20 129) 113 24 130) 113 25 131) 113 26 132) 113 27 133) 113 28 134) 113 29 135) 113 30 136) 113 31 137) 113 35 138) 113 36 139) 113 39 140) 113 40 141) 113 42 142) 113 43 143) 113 44 144) 113 47 145) 113 48 146) 113 49 147) 114 83 1) 114 84 1) 114 85 1) 114 86 1) 114 87 1) 114 88 1) 114 89 1) 114 90 1) 114 91 1) 114 92 1) 114 93 1) 114 94 1) 114 95 1) 114 96 1) 114 97 1) 114 98 1) 114 99 1) 114 100 1) 114 101 1) 114 102 1) 114 103 1) 114 104 1) 114 105 1) 114 106 1) 114 107 1) 114 108 1) 114 109 1) 114 110 1) 114 111 1) 114 112 1) 114 113 1) 114 114 1) 114 115 1) 114 116 1) 114 117 1) 114 118 1) 114 119 1) 114 120 1) 114 121 1) 114 122 1) 113 ((0 : Nat) : Int)) (y := 114) (by first | rfl | (simp [z_st, z_mm])) ?_
  refine z_bipush dX12_init_293 (by decide) ?_
  refine z_iload_n dX12_init_295 rfl ?_
  refine z_iadd dX12_init_296 ⟨by decide, by decide⟩ ?_
  refine z_R_sk (x := 83 + 40) (y := 123) rfl ?_
  refine z_iconst dX12_init_297 ⟨by decide, by decide⟩ ?_
  refine z_iast dX12_init_298 ⟨by decide, by decide, by decide +kernel⟩ (by decide) (by decide +kernel) ?_
  have fz109 := z_fz_st (i := 123) (v := 1) fz108 (show ((114 : Int) ≤ 147) by decide)
  refine z_iinc dX12_init_299 rfl (by decide) ⟨by decide, by decide⟩ ?_
  refine z_R_lo (lo1 := [some (2, 113), some (0, 41)]) rfl ?_
  refine z_goto (tgt := 283) dX12_init_302 (by decide) ?_
  refine z_iload_n dX12_init_283 rfl ?_
  refine z_bipush dX12_init_284 (by decide) ?_
  refine z_icmp_ge (tgt := 305) dX12_init_286 (by decide) (fun q => absurd q (by decide)) (fun _ => ?_)
  refine z_aload_n dX12_init_289 rfl ?_
  refine z_getf (t := 2) dX12_init_290 zf_X12_9 ⟨by decide, by decide, by decide +kernel⟩ rfl ?_
  refine z_R_ref (x := (z_st (z_st (z_st (z_st (z_st (z_st (z_st (z_st (z_st (z_st (z_st (z_st (z_st (z_st (z_st (z_st (z_st (z_st (z_st (z_st (z_st (z_st (z_st (z_st (z_st (z_st (z_st (z_st (z_st (z_st (z_st (z_st (z_st (z_st (z_st (z_st (z_st (z_st (z_st (z_st (z_st (z_st (z_st (z_st (z_st (z_st (z_st (z_st (z_st (z_st (z_st (z_st (z_st (z_st (z_st (z_st (z_st (z_st (z_st (z_st (z_st (z_st (z_st (z_st (z_st (z_st (z_st (z_st (z_st (z_st (z_st (z_st (z_st (z_st (z_st μ 113 0 114) 113 1 115) 113 2 116) 113 3 117) 113 4 118) 113 5 119) 113 7 120) 113 12 121) 113 13 122) 113 14 123) 113 15 124) 113 16 125) 113 17 126) 113 18 127) 113 19 128) 113 20 129) 113 24 130) 113 25 131) 113 26 132) 113 27 133) 113 28 134) 113 29 135) 113 30 136) 113 31 137) 113 35 138) 113 36 139) 113 39 140) 113 40 141) 113 42 142) 113 43 143) 113 44 144) 113 47 145) 113 48 146) 113 49 147) 114 83 1) 114 84 1) 114 85 1) 114 86 1) 114 87 1) 114 88 1) 114 89 1) 114 90 1) 114 91 1) 114 92 1) 114 93 1) 114 94 1) 114 95 1) 114 96 1) 114 97 1) 114 98 1) 114 99 1) 114 100 1) 114 101 1) 114 102 1) 114 103 1) 114 104 1) 114 105 1) 114 106 1) 114 107 1) 114 108 1) 114 109 1) 114 110 1) 114 111 1) 114 112 1) 114 113 1) 114 114 1) 114 115 1) 114 116 1) 114 117 1) 114 118 1) 114 119 1) 114 120 1) 114 121 1) 114 122 1) 114 123 1) 113 ((0 : Nat) : Int)) (y := 114) (by first | rfl | (simp [z_st, z_mm])) ?_
  refine z_bipush dX12_init_293 (by decide) ?_
  refine z_iload_n dX12_init_295 rfl ?_
  refine z_iadd dX12_init_296 ⟨by decide, by decide⟩ ?_
  refine z_R_sk (x := 83 + 41) (y := 124) rfl ?_
  refine z_iconst dX12_init_297 ⟨by decide, by decide⟩ ?_
  refine z_iast dX12_init_298 ⟨by decide, by decide, by decide +kernel⟩ (by decide) (by decide +kernel) ?_
  have fz110 := z_fz_st (i := 124) (v := 1) fz109 (show ((114 : Int) ≤ 147) by decide)
  refine z_iinc dX12_init_299 rfl (by decide) ⟨by decide, by decide⟩ ?_
  refine z_R_lo (lo1 := [some (2, 113), some (0, 42)]) rfl ?_
  refine z_goto (tgt := 283) dX12_init_302 (by decide) ?_
  refine z_iload_n dX12_init_283 rfl ?_
  refine z_bipush dX12_init_284 (by decide) ?_
  refine z_icmp_ge (tgt := 305) dX12_init_286 (by decide) (fun q => absurd q (by decide)) (fun _ => ?_)
  refine z_aload_n dX12_init_289 rfl ?_
  refine z_getf (t := 2) dX12_init_290 zf_X12_9 ⟨by decide, by decide, by decide +kernel⟩ rfl ?_
  refine z_R_ref (x := (z_st (z_st (z_st (z_st (z_st (z_st (z_st (z_st (z_st (z_st (z_st (z_st (z_st (z_st (z_st (z_st (z_st (z_st (z_st (z_st (z_st (z_st (z_st (z_st (z_st (z_st (z_st (z_st (z_st (z_st (z_st (z_st (z_st (z_st (z_st (z_st (z_st (z_st (z_st (z_st (z_st (z_st (z_st (z_st (z_st (z_st (z_st (z_st (z_st (z_st (z_st (z_st (z_st (z_st (z_st (z_st (z_st (z_st (z_st (z_st (z_st (z_st (z_st (z_st (z_st (z_st (z_st (z_st (z_st (z_st (z_st (z_st (z_st (z_st (z_st (z_st μ 113 0 114) 113 1 115) 113 2 116) 113 3 117) 113 4 118) 113 5 119) 113 7 120) 113 12 121) 113 13 122) 113 14 123) 113 15 124) 113 16 125) 113 17 126) 113 18 127) 113 19 128) 113 20 129) 113 24 130) 113 25 131) 113 26 132) 113 27 133) 113 28 134) 113 29 135) 113 30 136) 113 31 137) 113 35 138) 113 36 139) 113 39 140) 113 40 141) 113 42 142) 113 43 143) 113 44 144) 113 47 145) 113 48 146) 113 49 147) 114 83 1) 114 84 1) 114 85 1) 114 86 1) 114 87 1) 114 88 1) 114 89 1) 114 90 1) 114 91 1) 114 92 1) 114 93 1) 114 94 1) 114 95 1) 114 96 1) 114 97 1) 114 98 1) 114 99 1) 114 100 1) 114 101 1) 114 102 1) 114 103 1) 114 104 1) 114 105 1) 114 106 1) 114 107 1) 114 108 1) 114 109 1) 114 110 1) 114 111 1) 114 112 1) 114 113 1) 114 114 1) 114 115 1) 114 116 1) 114 117 1) 114 118 1) 114 119 1) 114 120 1) 114 121 1) 114 122 1) 114 123 1) 114 124 1) 113 ((0 : Nat) : Int)) (y := 114) (by first | rfl | (simp [z_st, z_mm])) ?_
  refine z_bipush dX12_init_293 (by decide) ?_
  refine z_iload_n dX12_init_295 rfl ?_
  refine z_iadd dX12_init_296 ⟨by decide, by decide⟩ ?_
  refine z_R_sk (x := 83 + 42) (y := 125) rfl ?_
  refine z_iconst dX12_init_297 ⟨by decide, by decide⟩ ?_
  refine z_iast dX12_init_298 ⟨by decide, by decide, by decide +kernel⟩ (by decide) (by decide +kernel) ?_
  have fz111 := z_fz_st (i := 125) (v := 1) fz110 (show ((114 : Int) ≤ 147) by decide)
  refine z_iinc dX12_init_299 rfl (by decide) ⟨by decide, by decide⟩ ?_
  refine z_R_lo (lo1 := [some (2, 113), some (0, 43)]) rfl ?_
  refine z_goto (tgt := 283) dX12_init_302 (by decide) ?_
  refine z_iload_n dX12_init_283 rfl ?_
  refine z_bipush dX12_init_284 (by decide) ?_
  refine z_icmp_ge (tgt := 305) dX12_init_286 (by decide) (fun q => absurd q (by decide)) (fun _ => ?_)
  refine z_aload_n dX12_init_289 rfl ?_
  refine z_getf (t := 2) dX12_init_290 zf_X12_9 ⟨by decide, by decide, by decide +kernel⟩ rfl ?_
  refine z_R_ref (x := (z_st (z_st (z_st (z_st (z_st (z_st (z_st (z_st (z_st (z_st (z_st (z_st (z_st (z_st (z_st (z_st (z_st (z_st (z_st (z_st (z_st (z_st (z_st (z_st (z_st (z_st (z_st (z_st (z_st (z_st (z_st (z_st (z_st (z_st (z_st (z_st (z_st (z_st (z_st (z_st (z_st (z_st (z_st (z_st (z_st (z_st (z_st (z_st (z_st (z_st (z_st (z_st (z_st (z_st (z_st (z_st (z_st (z_st (z_st (z_st (z_st (z_st (z_st (z_st (z_st (z_st (z_st (z_st (z_st (z_st (z_st (z_st (z_st (z_st (z_st (z_st (z_st μ 113 0 114) 113 1 115) 113 2 116) 113 3 117) 113 4 118) 113 5 119) 113 7 120) 113 12 121) 113 13 122) 113 14 123) 113 15 124) 113 16 125) 113 17 126) 113 18 127) 113 19 128) 113 20 129) 113 24 130) 113 25 131) 113 26 132) 113 27 133) 113 28 134) 113 29 135) 113 30 136) 113 31 137) 113 35 138) 113 36 139) 113 39 140) 113 40 141) 113 42 142) 113 43 143) 113 44 144) 113 47 145) 113 48 146) 113 49 147) 114 83 1) 114 84 1) 114 85 1) 114 86 1) 114 87 1) 114 88 1) 114 89 1) 114 90 1) 114 91 1) 114 92 1) 114 93 1) 114 94 1) 114 95 1) 114 96 1) 114 97 1) 114 98 1) 114 99 1) 114 100 1) 114 101 1) 114 102 1) 114 103 1) 114 104 1) 114 105 1) 114 106 1) 114 107 1) 114 108 1) 114 109 1) 114 110 1) 114 111 1) 114 112 1) 114 113 1) 114 114 1) 114 115 1) 114 116 1) 114 117 1) 114 118 1) 114 119 1) 114 120 1) 114 121 1) 114 122 1) 114 123 1) 114 124 1) 114 125 1) 113 ((0 : Nat) : Int)) (y := 114) (by first | rfl | (simp [z_st, z_mm])) ?_
  refine z_bipush dX12_init_293 (by decide) ?_
  refine z_iload_n dX12_init_295 rfl ?_
  refine z_iadd dX12_init_296 ⟨by decide, by decide⟩ ?_
  refine z_R_sk (x := 83 + 43) (y := 126) rfl ?_
  refine z_iconst dX12_init_297 ⟨by decide, by decide⟩ ?_
  refine z_iast dX12_init_298 ⟨by decide, by decide, by decide +kernel⟩ (by decide) (by decide +kernel) ?_
  have fz112 := z_fz_st (i := 126) (v := 1) fz111 (show ((114 : Int) ≤ 147) by decide)
  refine z_iinc dX12_init_299 rfl (by decide) ⟨by decide, by decide⟩ ?_
  refine z_R_lo (lo1 := [some (2, 113), some (0, 44)]) rfl ?_
  refine z_goto (tgt := 283) dX12_init_302 (by decide) ?_
  refine z_iload_n dX12_init_283 rfl ?_
  refine z_bipush dX12_init_284 (by decide) ?_
  refine z_icmp_ge (tgt := 305) dX12_init_286 (by decide) (fun q => absurd q (by decide)) (fun _ => ?_)
  refine z_aload_n dX12_init_289 rfl ?_
  refine z_getf (t := 2) dX12_init_290 zf_X12_9 ⟨by decide, by decide, by decide +kernel⟩ rfl ?_
  refine z_R_ref (x := (z_st (z_st (z_st (z_st (z_st (z_st (z_st (z_st (z_st (z_st (z_st (z_st (z_st (z_st (z_st (z_st (z_st (z_st (z_st (z_st (z_st (z_st (z_st (z_st (z_st (z_st (z_st (z_st (z_st (z_st (z_st (z_st (z_st (z_st (z_st (z_st (z_st (z_st (z_st (z_st (z_st (z_st (z_st (z_st (z_st (z_st (z_st (z_st (z_st (z_st (z_st (z_st (z_st (z_st (z_st (z_st (z_st (z_st (z_st (z_st (z_st (z_st (z_st (z_st (z_st (z_st (z_st (z_st (z_st (z_st (z_st (z_st (z_st (z_st (z_st (z_st (z_st (z_st μ 113 0 114) 113 1 115) 113 2 116) 113 3 117) 113 4 118) 113 5 119) 113 7 120) 113 12 121) 113 13 122) 113 14 123) 113 15 124) 113 16 125) 113 17 126) 113 18 127) 113 19 128) 113 20 129) 113 24 130) 113 25 131) 113 26 132) 113 27 133) 113 28 134) 113 29 135) 113 30 136) 113 31 137) 113 35 138) 113 36 139) 113 39 140) 113 40 141) 113 42 142) 113 43 143) 113 44 144) 113 47 145) 113 48 146) 113 49 147) 114 83 1) 114 84 1) 114 85 1) 114 86 1) 114 87 1) 114 88 1) 114 89 1) 114 90 1) 114 91 1) 114 92 1) 114 93 1) 114 94 1) 114 95 1) 114 96 1) 114 97 1) 114 98 1) 114 99 1) 114 100 1) 114 101 1) 114 102 1) 114 103 1) 114 104 1) 114 105 1) 114 106 1) 114 107 1) 114 108 1) 114 109 1) 114 110 1) 114 111 1) 114 112 1) 114 113 1) 114 114 1) 114 115 1) 114 116 1) 114 117 1) 114 118 1) 114 119 1) 114 120 1) 114 121 1) 114 122 1) 114 123 1) 114 124 1) 114 125 1) 114 126 1) 113 ((0 : Nat) : Int)) (y := 114) (by first | rfl | (simp [z_st, z_mm])) ?_
  refine z_bipush dX12_init_293 (by decide) ?_
  refine z_iload_n dX12_init_295 rfl ?_
  refine z_iadd dX12_init_296 ⟨by decide, by decide⟩ ?_
  refine z_R_sk (x := 83 + 44) (y := 127) rfl ?_
  refine z_iconst dX12_init_297 ⟨by decide, by decide⟩ ?_
  refine z_iast dX12_init_298 ⟨by decide, by decide, by decide +kernel⟩ (by decide) (by decide +kernel) ?_
  have fz113 := z_fz_st (i := 127) (v := 1) fz112 (show ((114 : Int) ≤ 147) by decide)
  refine z_iinc dX12_init_299 rfl (by decide) ⟨by decide, by decide⟩ ?_
  refine z_R_lo (lo1 := [some (2, 113), some (0, 45)]) rfl ?_
  refine z_goto (tgt := 283) dX12_init_302 (by decide) ?_
  refine z_iload_n dX12_init_283 rfl ?_
  refine z_bipush dX12_init_284 (by decide) ?_
  refine z_icmp_ge (tgt := 305) dX12_init_286 (by decide) (fun q => absurd q (by decide)) (fun _ => ?_)
  refine z_aload_n dX12_init_289 rfl ?_
  refine z_getf (t := 2) dX12_init_290 zf_X12_9 ⟨by decide, by decide, by decide +kernel⟩ rfl ?_
  refine z_R_ref (x := (z_st (z_st (z_st (z_st (z_st (z_st (z_st (z_st (z_st (z_st (z_st (z_st (z_st (z_st (z_st (z_st (z_st (z_st (z_st (z_st (z_st (z_st (z_st (z_st (z_st (z_st (z_st (z_st (z_st (z_st (z_st (z_st (z_st (z_st (z_st (z_st (z_st (z_st (z_st (z_st (z_st (z_st (z_st (z_st (z_st (z_st (z_st (z_st (z_st (z_st (z_st (z_st (z_st (z_st (z_st (z_st (z_st (z_st (z_st (z_st (z_st (z_st (z_st (z_st (z_st (z_st (z_st (z_st (z_st (z_st (z_st (z_st (z_st (z_st (z_st (z_st (z_st (z_st (z_st μ 113 0 114) 113 1 115) 113 2 116) 113 3 117) 113 4 118) 113 5 119) 113 7 120) 113 12 121) 113 13 122) 113 14 123) 113 15 124) 113 16 125) 113 17 126) 113 18 127) 113 19 128) 113 20 129) 113 24 130) 113 25 131) 113 26 132) 113 27 133) 113 28 134) 113 29 135) 113 30 136) 113 31 137) 113 35 138) 113 36 139) 113 39 140) 113 40 141) 113 42 142) 113 43 143) 113 44 144) 113 47 145) 113 48 146) 113 49 147) 114 83 1) 114 84 1) 114 85 1) 114 86 1) 114 87 1) 114 88 1) 114 89 1) 114 90 1) 114 91 1) 114 92 1) 114 93 1) 114 94 1) 114 95 1) 114 96 1) 114 97 1) 114 98 1) 114 99 1) 114 100 1) 114 101 1) 114 102 1) 114 103 1) 114 104 1) 114 105 1) 114 106 1) 114 107 1) 114 108 1) 114 109 1) 114 110 1) 114 111 1) 114 112 1) 114 113 1) 114 114 1) 114 115 1) 114 116 1) 114 117 1) 114 118 1) 114 119 1) 114 120 1) 114 121 1) 114 122 1) 114 123 1) 114 124 1) 114 125 1) 114 126 1) 114 127 1) 113 ((0 : Nat) : Int)) (y := 114) (by first | rfl | (simp [z_st, z_mm])) ?_
  refine z_bipush dX12_init_293 (by decide) ?_
  refine z_iload_n dX12_init_295 rfl ?_
  refine z_iadd dX12_init_296 ⟨by decide, by decide⟩ ?_
  refine z_R_sk (x := 83 + 45) (y := 128) rfl ?_
  refine z_iconst dX12_init_297 ⟨by decide, by decide⟩ ?_
  refine z_iast dX12_init_298 ⟨by decide, by decide, by decide +kernel⟩ (by decide) (by decide +kernel) ?_
  have fz114 := z_fz_st (i := 128) (v := 1) fz113 (show ((114 : Int) ≤ 147) by decide)
  refine z_iinc dX12_init_299 rfl (by decide) ⟨by decide, by decide⟩ ?_
  refine z_R_lo (lo1 := [some (2, 113), some (0, 46)]) rfl ?_
  refine z_goto (tgt := 283) dX12_init_302 (by decide) ?_
  refine z_iload_n dX12_init_283 rfl ?_
  refine z_bipush dX12_init_284 (by decide) ?_
  refine z_icmp_ge (tgt := 305) dX12_init_286 (by decide) (fun q => absurd q (by decide)) (fun _ => ?_)
  refine z_aload_n dX12_init_289 rfl ?_
  refine z_getf (t := 2) dX12_init_290 zf_X12_9 ⟨by decide, by decide, by decide +kernel⟩ rfl ?_
  refine z_R_ref (x := (z_st (z_st (z_st (z_st (z_st (z_st (z_st (z_st (z_st (z_st (z_st (z_st (z_st (z_st (z_st (z_st (z_st (z_st (z_st (z_st (z_st (z_st (z_st (z_st (z_st (z_st (z_st (z_st (z_st (z_st (z_st (z_st (z_st (z_st (z_st (z_st (z_st (z_st (z_st (z_st (z_st (z_st (z_st (z_st (z_st (z_st (z_st (z_st (z_st (z_st (z_st (z_st (z_st (z_st (z_st (z_st (z_st (z_st (z_st (z_st (z_st (z_st (z_st (z_st (z_st (z_st (z_st (z_st (z_st (z_st (z_st (z_st (z_st (z_st (z_st (z_st (z_st (z_st (z_st (z_st μ 113 0 114) 113 1 115) 113 2 116) 113 3 117) 113 4 118) 113 5 119) 113 7 120) 113 12 121) 113 13 122) 113 14 123) 113 15 124) 113 16 125) 113 17 126) 113 18 127) 113 19 128) 113 20 129) 113 24 130) 113 25 131) 113 26 132) 113 27 133) 113 28 134) 113 29 135) 113 30 136) 113 31 137) 113 35 138) 113 36 139) 113 39 140) 113 40 141) 113 42 142) 113 43 143) 113 44 144) 113 47 145) 113 48 146) 113 49 147) 114 83 1) 114 84 1) 114 85 1) 114 86 1) 114 87 1) 114 88 1) 114 89 1) 114 90 1) 114 91 1) 114 92 1) 114 93 1) 114 94 1) 114 95 1) 114 96 1) 114 97 1) 114 98 1) 114 99 1) 114 100 1) 114 101 1) 114 102 1) 114 103 1) 114 104 1) 114 105 1) 114 106 1) 114 107 1) 114 108 1) 114 109 1) 114 110 1) 114 111 1) 114 112 1) 114 113 1) 114 114 1) 114 115 1) 114 116 1) 114 117 1) 114 118 1) 114 119 1) 114 120 1) 114 121 1) 114 122 1) 114 123 1) 114 124 1) 114 125 1) 114 126 1) 114 127 1) 114 128 1) 113 ((0 : Nat) : Int)) (y := 114) (by first | rfl | (simp [z_st, z_mm])) ?_
  refine z_bipush dX12_init_293 (by decide) ?_
  refine z_iload_n dX12_init_295 rfl ?_
  refine z_iadd dX12_init_296 ⟨by decide, by decide⟩ ?_
  refine z_R_sk (x := 83 + 46) (y := 129) rfl ?_
  refine z_iconst dX12_init_297 ⟨by decide, by decide⟩ ?_
  refine z_iast dX12_init_298 ⟨by decide, by decide, by decide +kernel⟩ (by decide) (by decide +kernel) ?_
  have fz115 := z_fz_st (i := 129) (v := 1) fz114 (show ((114 : Int) ≤ 147) by decide)
  refine z_iinc dX12_init_299 rfl (by decide) ⟨by decide, by decide⟩ ?_
  refine z_R_lo (lo1 := [some (2, 113), some (0, 47)]) rfl ?_
  refine z_goto (tgt := 283) dX12_init_302 (by decide) ?_
  refine z_iload_n dX12_init_283 rfl ?_
  refine z_bipush dX12_init_284 (by decide) ?_
  refine z_icmp_ge (tgt := 305) dX12_init_286 (by decide) (fun q => absurd q (by decide)) (fun _ => ?_)
  refine z_aload_n dX12_init_289 rfl ?_
  refine z_getf (t := 2) dX12_init_290 zf_X12_9 ⟨by decide, by decide, by decide +kernel⟩ rfl ?_
  refine z_R_ref (x := (z_st (z_st (z_st (z_st (z_st (z_st (z_st (z_st (z_st (z_st (z_st (z_st (z_st (z_st (z_st (z_st (z_st (z_st (z_st (z_st (z_st (z_st (z_st (z_st (z_st (z_st (z_st (z_st (z_st (z_st (z_st (z_st (z_st (z_st (z_st (z_st (z_st (z_st (z_st (z_st (z_st (z_st (z_st (z_st (z_st (z_st (z_st (z_st (z_st (z_st (z_st (z_st (z_st (z_st (z_st (z_st (z_st (z_st (z_st (z_st (z_st (z_st (z_st (z_st (z_st (z_st (z_st (z_st (z_st (z_st (z_st (z_st (z_st (z_st (z_st (z_st (z_st (z_st (z_st (z_st (z_st μ 113 0 114) 113 1 115) 113 2 116) 113 3 117) 113 4 118) 113 5 119) 113 7 120) 113 12 121) 113 13 122) 113 14 123) 113 15 124) 113 16 125) 113 17 126) 113 18 127) 113 19 128) 113 20 129) 113 24 130) 113 25 131) 113 26 132) 113 27 133) 113 28 134) 113 29 135) 113 30 136) 113 31 137) 113 35 138) 113 36 139) 113 39 140) 113 40 141) 113 42 142) 113 43 143) 113 44 144) 113 47 145) 113 48 146) 113 49 147) 114 83 1) 114 84 1) 114 85 1) 114 86 1) 114 87 1) 114 88 1) 114 89 1) 114 90 1) 114 91 1) 114 92 1) 114 93 1) 114 94 1) 114 95 1) 114 96 1) 114 97 1) 114 98 1) 114 99 1) 114 100 1) 114 101 1) 114 102 1) 114 103 1) 114 104 1) 114 105 1) 114 106 1) 114 107 1) 114 108 1) 114 109 1) 114 110 1) 114 111 1) 114 112 1) 114 113 1) 114 114 1) 114 115 1) 114 116 1) 114 117 1) 114 118 1) 114 119 1) 114 120 1) 114 121 1) 114 122 1) 114 123 1) 114 124 1) 114 125 1) 114 126 1) 114 127 1) 114 128 1) 114 129 1) 113 ((0 : Nat) : Int)) (y := 114) (by first | rfl | (simp [z_st, z_mm])) ?_
  refine z_bipush dX12_init_293 (by decide) ?_
  refine z_iload_n dX12_init_295 rfl ?_
  refine z_iadd dX12_init_296 ⟨by decide, by decide⟩ ?_
  refine z_R_sk (x := 83 + 47) (y := 130) rfl ?_
  refine z_iconst dX12_init_297 ⟨by decide, by decide⟩ ?_
  refine z_iast dX12_init_298 ⟨by decide, by decide, by decide +kernel⟩ (by decide) (by decide +kernel) ?_
  have fz116 := z_fz_st (i := 130) (v := 1) fz115 (show ((114 : Int) ≤ 147) by decide)
  refine z_iinc dX12_init_299 rfl (by decide) ⟨by decide, by decide⟩ ?_
  refine z_R_lo (lo1 := [some (2, 113), some (0, 48)]) rfl ?_
  refine z_goto (tgt := 283) dX12_init_302 (by decide) ?_
  refine z_iload_n dX12_init_283 rfl ?_
  refine z_bipush dX12_init_284 (by decide) ?_
  refine z_icmp_ge (tgt := 305) dX12_init_286 (by decide) (fun q => absurd q (by decide)) (fun _ => ?_)
  refine z_aload_n dX12_init_289 rfl ?_
  refine z_getf (t := 2) dX12_init_290 zf_X12_9 ⟨by decide, by decide, by decide +kernel⟩ rfl ?_
  refine z_R_ref (x := (z_st (z_st (z_st (z_st (z_st (z_st (z_st (z_st (z_st (z_st (z_st (z_st (z_st (z_st (z_st (z_st (z_st (z_st (z_st (z_st (z_st (z_st (z_st (z_st (z_st (z_st (z_st (z_st (z_st (z_st (z_st (z_st (z_st (z_st (z_st (z_st (z_st (z_st (z_st (z_st (z_st (z_st (z_st (z_st (z_st (z_st (z_st (z_st (z_st (z_st (z_st (z_st (z_st (z_st (z_st (z_st (z_st (z_st (z_st (z_st (z_st (z_st (z_st (z_st (z_st (z_st (z_st (z_st (z_st (z_st (z_st (z_st (z_st (z_st (z_st (z_st (z_st (z_st (z_st (z_st (z_st (z_st μ 113 0 114) 113 1 115) 113 2 116) 113 3 117) 113 4 118) 113 5 119) 113 7 120) 113 12 121) 113 13 122) 113 14 123) 113 15 124) 113 16 125) 113 17 126) 113 18 127) 113 19 128) 113 20 129) 113 24 130) 113 25 131) 113 26 132) 113 27 133) 113 28 134) 113 29 135) 113 30 136) 113 31 137) 113 35 138) 113 36 139) 113 39 140) 113 40 141) 113 42 142) 113 43 143) 113 44 144) 113 47 145) 113 48 146) 113 49 147) 114 83 1) 114 84 1) 114 85 1) 114 86 1) 114 87 1) 114 88 1) 114 89 1) 114 90 1) 114 91 1) 114 92 1) 114 93 1) 114 94 1) 114 95 1) 114 96 1) 114 97 1) 114 98 1) 114 99 1) 114 100 1) 114 101 1) 114 102 1) 114 103 1) 114 104 1) 114 105 1) 114 106 1) 114 107 1) 114 108 1) 114 109 1) 114 110 1) 114 111 1) 114 112 1) 114 113 1) 114 114 1) 114 115 1) 114 116 1) 114 117 1) 114 118 1) 114 119 1) 114 120 1) 114 121 1) 114 122 1) 114 123 1) 114 124 1) 114 125 1) 114 126 1) 114 127 1) 114 128 1) 114 129 1) 114 130 1) 113 ((0 : Nat) : Int)) (y := 114) (by first | rfl | (simp [z_st, z_mm])) ?_
  refine z_bipush dX12_init_293 (by decide) ?_
  refine z_iload_n dX12_init_295 rfl ?_
  refine z_iadd dX12_init_296 ⟨by decide, by decide⟩ ?_
  refine z_R_sk (x := 83 + 48) (y := 131) rfl ?_
  refine z_iconst dX12_init_297 ⟨by decide, by decide⟩ ?_
  refine z_iast dX12_init_298 ⟨by decide, by decide, by decide +kernel⟩ (by decide) (by decide +kernel) ?_
  have fz117 := z_fz_st (i := 131) (v := 1) fz116 (show ((114 : Int) ≤ 147) by decide)
  refine z_iinc dX12_init_299 rfl (by decide) ⟨by decide, by decide⟩ ?_
  refine z_R_lo (lo1 := [some (2, 113), some (0, 49)]) rfl ?_
  refine z_goto (tgt := 283) dX12_init_302 (by decide) ?_
  refine z_iload_n dX12_init_283 rfl ?_
  refine z_bipush dX12_init_284 (by decide) ?_
  refine z_icmp_ge (tgt := 305) dX12_init_286 (by decide) (fun q => absurd q (by decide)) (fun _ => ?_)
  refine z_aload_n dX12_init_289 rfl ?_
  refine z_getf (t := 2) dX12_init_290 zf_X12_9 ⟨by decide, by decide, by decide +kernel⟩ rfl ?_
  refine z_R_ref (x := (z_st (z_st (z_st (z_st (z_st (z_st (z_st (z_st (z_st (z_st (z_st (z_st (z_st (z_st (z_st (z_st (z_st (z_st (z_st (z_st (z_st (z_st (z_st (z_st (z_st (z_st (z_st (z_st (z_st (z_st (z_st (z_st (z_st (z_st (z_st (z_st (z_st (z_st (z_st (z_st (z_st (z_st (z_st (z_st (z_st (z_st (z_st (z_st (z_st (z_st (z_st (z_st (z_st (z_st (z_st (z_st (z_st (z_st (z_st (z_st (z_st (z_st (z_st (z_st (z_st (z_st (z_st (z_st (z_st (z_st (z_st (z_st (z_st (z_st (z_st (z_st (z_st (z_st (z_st (z_st (z_st (z_st (z_st μ 113 0 114) 113 1 115) 113 2 116) 113 3 117) 113 4 118) 113 5 119) 113 7 120) 113 12 121) 113 13 122) 113 14 123) 113 15 124) 113 16 125) 113 17 126) 113 18 127) 113 19 128) 113 20 129) 113 24 130) 113 25 131) 113 26 132) 113 27 133) 113 28 134) 113 29 135) 113 30 136) 113 31 137) 113 35 138) 113 36 139) 113 39 140) 113 40 141) 113 42 142) 113 43 143) 113 44 144) 113 47 145) 113 48 146) 113 49 147) 114 83 1) 114 84 1) 114 85 1) 114 86 1) 114 87 1) 114 88 1) 114 89 1) 114 90 1) 114 91 1) 114 92 1) 114 93 1) 114 94 1) 114 95 1) 114 96 1) 114 97 1) 114 98 1) 114 99 1) 114 100 1) 114 101 1) 114 102 1) 114 103 1) 114 104 1) 114 105 1) 114 106 1) 114 107 1) 114 108 1) 114 109 1) 114 110 1) 114 111 1) 114 112 1) 114 113 1) 114 114 1) 114 115 1) 114 116 1) 114 117 1) 114 118 1) 114 119 1) 114 120 1) 114 121 1) 114 122 1) 114 123 1) 114 124 1) 114 125 1) 114 126 1) 114 127 1) 114 128 1) 114 129 1) 114 130 1) 114 131 1) 113 ((0 : Nat) : Int)) (y := 114) (by first | rfl | (simp [z_st, z_mm])) ?_
  refine z_bipush dX12_init_293 (by decide) ?_
  refine z_iload_n dX12_init_295 rfl ?_
  refine z_iadd dX12_init_296 ⟨by decide, by decide⟩ ?_
  refine z_R_sk (x := 83 + 49) (y := 132) rfl ?_
  refine z_iconst dX12_init_297 ⟨by decide, by decide⟩ ?_
  refine z_iast dX12_init_298 ⟨by decide, by decide, by decide +kernel⟩ (by decide) (by decide +kernel) ?_
  have fz118 := z_fz_st (i := 132) (v := 1) fz117 (show ((114 : Int) ≤ 147) by decide)
  refine z_iinc dX12_init_299 rfl (by decide) ⟨by decide, by decide⟩ ?_
  refine z_R_lo (lo1 := [some (2, 113), some (0, 50)]) rfl ?_
  refine z_goto (tgt := 283) dX12_init_302 (by decide) ?_
  refine z_iload_n dX12_init_283 rfl ?_
  refine z_bipush dX12_init_284 (by decide) ?_
  refine z_icmp_ge (tgt := 305) dX12_init_286 (by decide) (fun q => absurd q (by decide)) (fun _ => ?_)
  refine z_aload_n dX12_init_289 rfl ?_
  refine z_getf (t := 2) dX12_init_290 zf_X12_9 ⟨by decide, by decide, by decide +kernel⟩ rfl ?_
  refine z_R_ref (x := (z_st (z_st (z_st (z_st (z_st (z_st (z_st (z_st (z_st (z_st (z_st (z_st (z_st (z_st (z_st (z_st (z_st (z_st (z_st (z_st (z_st (z_st (z_st (z_st (z_st (z_st (z_st (z_st (z_st (z_st (z_st (z_st (z_st (z_st (z_st (z_st (z_st (z_st (z_st (z_st (z_st (z_st (z_st (z_st (z_st (z_st (z_st (z_st (z_st (z_st (z_st (z_st (z_st (z_st (z_st (z_st (z_st (z_st (z_st (z_st (z_st (z_st (z_st (z_st (z_st (z_st (z_st (z_st (z_st (z_st (z_st (z_st (z_st (z_st (z_st (z_st (z_st (z_st (z_st (z_st (z_st (z_st (z_st (z_st μ 113 0 114) 113 1 115) 113 2 116) 113 3 117) 113 4 118) 113 5 119) 113 7 120) 113 12 121) 113 13 122) 113 14 123) 113 15 124) 113 16 125) 113 17 126) 113 18 127) 113 19 128) 113 20 129) 113 24 130) 113 25 131) 113 26 132) 113 27 133) 113 28 134) 113 29 135) 113 30 136) 113 31 137) 113 35 138) 113 36 139) 113 39 140) 113 40 141) 113 42 142) 113 43 143) 113 44 144) 113 47 145) 113 48 146) 113 49 147) 114 83 1) 114 84 1) 114 85 1) 114 86 1) 114 87 1) 114 88 1) 114 89 1) 114 90 1) 114 91 1) 114 92 1) 114 93 1) 114 94 1) 114 95 1) 114 96 1) 114 97 1) 114 98 1) 114 99 1) 114 100 1) 114 101 1) 114 102 1) 114 103 1) 114 104 1) 114 105 1) 114 106 1) 114 107 1) 114 108 1) 114 109 1) 114 110 1) 114 111 1) 114 112 1) 114 113 1) 114 114 1) 114 115 1) 114 116 1) 114 117 1) 114 118 1) 114 119 1) 114 120 1) 114 121 1) 114 122 1) 114 123 1) 114 124 1) 114 125 1) 114 126 1) 114 127 1) 114 128 1) 114 129 1) 114 130 1) 114 131 1) 114 132 1) 113 ((0 : Nat) : Int)) (y := 114) (by first | rfl | (simp [z_st, z_mm])) ?_
  refine z_bipush dX12_init_293 (by decide) ?_
  refine z_iload_n dX12_init_295 rfl ?_
  refine z_iadd dX12_init_296 ⟨by decide, by decide⟩ ?_
  refine z_R_sk (x := 83 + 50) (y := 133) rfl ?_
  refine z_iconst dX12_init_297 ⟨by decide, by decide⟩ ?_
  refine z_iast dX12_init_298 ⟨by decide, by decide, by decide +kernel⟩ (by decide) (by decide +kernel) ?_
  have fz119 := z_fz_st (i := 133) (v := 1) fz118 (show ((114 : Int) ≤ 147) by decide)
  refine z_iinc dX12_init_299 rfl (by decide) ⟨by decide, by decide⟩ ?_
  refine z_R_lo (lo1 := [some (2, 113), some (0, 51)]) rfl ?_
  refine z_goto (tgt := 283) dX12_init_302 (by decide) ?_
  refine z_iload_n dX12_init_283 rfl ?_
  refine z_bipush dX12_init_284 (by decide) ?_
  refine z_icmp_ge (tgt := 305) dX12_init_286 (by decide) (fun q => absurd q (by decide)) (fun _ => ?_)
  refine z_aload_n dX12_init_289 rfl ?_
  refine z_getf (t := 2) dX12_init_290 zf_X12_9 ⟨by decide, by decide, by decide +kernel⟩ rfl ?_
  refine z_R_ref (x := (z_st (z_st (z_st (z_st (z_st (z_st (z_st (z_st (z_st (z_st (z_st (z_st (z_st (z_st (z_st (z_st (z_st (z_st (z_st (z_st (z_st (z_st (z_st (z_st (z_st (z_st (z_st (z_st (z_st (z_st (z_st (z_st (z_st (z_st (z_st (z_st (z_st (z_st (z_st (z_st (z_st (z_st (z_st (z_st (z_st (z_st (z_st (z_st (z_st (z_st (z_st (z_st (z_st (z_st (z_st (z_st (z_st (z_st (z_st (z_st (z_st (z_st (z_st (z_st (z_st (z_st (z_st (z_st (z_st (z_st (z_st (z_st (z_st (z_st (z_st (z_st (z_st (z_st (z_st (z_st (z_st (z_st (z_st (z_st (z_st μ 113 0 114) 113 1 115) 113 2 116) 113 3 117) 113 4 118) 113 5 119) 113 7 120) 113 12 121) 113 13 122) 113 14 123) 113 15 124) 113 16 125) 113 17 126) 113 18 127) 113 19 128) 113 20 129) 113 24 130) 113 25 131) 113 26 132) 113 27 133) 113 28 134) 113 29 135) 113 30 136) 113 31 137) 113 35 138) 113 36 139) 113 39 140) 113 40 141) 113 42 142) 113 43 143) 113 44 144) 113 47 145) 113 48 146) 113 49 147) 114 83 1) 114 84 1) 114 85 1) 114 86 1) 114 87 1) 114 88 1) 114 89 1) 114 90 1) 114 91 1) 114 92 1) 114 93 1) 114 94 1) 114 95 1) 114 96 1) 114 97 1) 114 98 1) 114 99 1) 114 100 1) 114 101 1) 114 102 1) 114 103 1) 114 104 1) 114 105 1) 114 106 1) 114 107 1) 114 108 1) 114 109 1) 114 110 1) 114 111 1) 114 112 1) 114 113 1) 114 114 1) 114 115 1) 114 116 1) 114 117 1) 114 118 1) 114 119 1) 114 120 1) 114 121 1) 114 122 1) 114 123 1) 114 124 1) 114 125 1) 114 126 1) 114 127 1) 114 128 1) 114 129 1) 114 130 1) 114 131 1) 114 132 1) 114 133 1) 113 ((0 : Nat) : Int)) (y := 114) (by first | rfl | (simp [z_st, z_mm])) ?_
  refine z_bipush dX12_init_293 (by decide) ?_
  refine z_iload_n dX12_init_295 rfl ?_
  refine z_iadd dX12_init_296 ⟨by decide, by decide⟩ ?_
  refine z_R_sk (x := 83 + 51) (y := 134) rfl ?_
  refine z_iconst dX12_init_297 ⟨by decide, by decide⟩ ?_
  refine z_iast dX12_init_298 ⟨by decide, by decide, by decide +kernel⟩ (by decide) (by decide +kernel) ?_
  have fz120 := z_fz_st (i := 134) (v := 1) fz119 (show ((114 : Int) ≤ 147) by decide)
  refine z_iinc dX12_init_299 rfl (by decide) ⟨by decide, by decide⟩ ?_
  refine z_R_lo (lo1 := [some (2, 113), some (0, 52)]) rfl ?_
  refine z_goto (tgt := 283) dX12_init_302 (by decide) ?_
  refine z_iload_n dX12_init_283 rfl ?_
  refine z_bipush dX12_init_284 (by decide) ?_
  refine z_icmp_ge (tgt := 305) dX12_init_286 (by decide) (fun q => absurd q (by decide)) (fun _ => ?_)
  refine z_aload_n dX12_init_289 rfl ?_
  refine z_getf (t := 2) dX12_init_290 zf_X12_9 ⟨by decide, by decide, by decide +kernel⟩ rfl ?_
  refine z_R_ref (x := (z_st (z_st (z_st (z_st (z_st (z_st (z_st (z_st (z_st (z_st (z_st (z_st (z_st (z_st (z_st (z_st (z_st (z_st (z_st (z_st (z_st (z_st (z_st (z_st (z_st (z_st (z_st (z_st (z_st (z_st (z_st (z_st (z_st (z_st (z_st (z_st (z_st (z_st (z_st (z_st (z_st (z_st (z_st (z_st (z_st (z_st (z_st (z_st (z_st (z_st (z_st (z_st (z_st (z_st (z_st (z_st (z_st (z_st (z_st (z_st (z_st (z_st (z_st (z_st (z_st (z_st (z_st (z_st (z_st (z_st (z_st (z_st (z_st (z_st (z_st (z_st (z_st (z_st (z_st (z_st (z_st (z_st (z_st (z_st (z_st (z_st μ 113 0 114) 113 1 115) 113 2 116) 113 3 117) 113 4 118) 113 5 119) 113 7 120) 113 12 121) 113 13 122) 113 14 123) 113 15 124) 113 16 125) 113 17 126) 113 18 127) 113 19 128) 113 20 129) 113 24 130) 113 25 131) 113 26 132) 113 27 133) 113 28 134) 113 29 135) 113 30 136) 113 31 137) 113 35 138) 113 36 139) 113 39 140) 113 40 141) 113 42 142) 113 43 143) 113 44 144) 113 47 145) 113 48 146) 113 49 147) 114 83 1) 114 84 1) 114 85 1) 114 86 1) 114 87 1) 114 88 1) 114 89 1) 114 90 1) 114 91 1) 114 92 1) 114 93 1) 114 94 1) 114 95 1) 114 96 1) 114 97 1) 114 98 1) 114 99 1) 114 100 1) 114 101 1) 114 102 1) 114 103 1) 114 104 1) 114 105 1) 114 106 1) 114 107 1) 114 108 1) 114 109 1) 114 110 1) 114 111 1) 114 112 1) 114 113 1) 114 114 1) 114 115 1) 114 116 1) 114 117 1) 114 118 1) 114 119 1) 114 120 1) 114 121 1) 114 122 1) 114 123 1) 114 124 1) 114 125 1) 114 126 1) 114 127 1) 114 128 1) 114 129 1) 114 130 1) 114 131 1) 114 132 1) 114 133 1) 114 134 1) 113 ((0 : Nat) : Int)) (y := 114) (by first | rfl | (simp [z_st, z_mm])) ?_
  refine z_bipush dX12_init_293 (by decide) ?_
  refine z_iload_n dX12_init_295 rfl ?_
  refine z_iadd dX12_init_296 ⟨by decide, by decide⟩ ?_
  refine z_R_sk (x := 83 + 52) (y := 135) rfl ?_
  refine z_iconst dX12_init_297 ⟨by decide, by decide⟩ ?_
  refine z_iast dX12_init_298 ⟨by decide, by decide, by decide +kernel⟩ (by decide) (by decide +kernel) ?_
  have fz121 := z_fz_st (i := 135) (v := 1) fz120 (show ((114 : Int) ≤ 147) by decide)
  refine z_iinc dX12_init_299 rfl (by decide) ⟨by decide, by decide⟩ ?_
  refine z_R_lo (lo1 := [some (2, 113), some (0, 53)]) rfl ?_
  refine z_goto (tgt := 283) dX12_init_302 (by decide) ?_
  refine z_iload_n dX12_init_283 rfl ?_
  refine z_bipush dX12_init_284 (by decide) ?_
  refine z_icmp_ge (tgt := 305) dX12_init_286 (by decide) (fun q => absurd q (by decide)) (fun _ => ?_)
  refine z_aload_n dX12_init_289 rfl ?_
  refine z_getf (t := 2) dX12_init_290 zf_X12_9 ⟨by decide, by decide, by decide +kernel⟩ rfl ?_
  refine z_R_ref (x := (z_st (z_st (z_st (z_st (z_st (z_st (z_st (z_st (z_st (z_st (z_st (z_st (z_st (z_st (z_st (z_st (z_st (z_st (z_st (z_st (z_st (z_st (z_st (z_st (z_st (z_st (z_st (z_st (z_st (z_st (z_st (z_st (z_st (z_st (z_st (z_st (z_st (z_st (z_st (z_st (z_st (z_st (z_st (z_st (z_st (z_st (z_st (z_st (z_st (z_st (z_st (z_st (z_st (z_st (z_st (z_st (z_st (z_st (z_st (z_st (z_st (z_st (z_st (z_st (z_st (z_st (z_st (z_st (z_st (z_st (z_st (z_st (z_st (z_st (z_st (z_st (z_st (z_st (z_st (z_st (z_st (z_st (z_st (z_st (z_st (z_st (z_st μ 113 0 114) 113 1 115) 113 2 116) 113 3 117) 113 4 118) 113 5 119) 113 7 120) 113 12 121) 113 13 122) 113 14 123) 113 15 124) 113 16 125) 113 17 126) 113 18 127) 113 19 128) 113 20 129) 113 24 130) 113 25 131) 113 26 132) 113 27 133) 113 28 134) 113 29 135) 113 30 136) 113 31 137) 113 35 138) 113 36 139) 113 39 140) 113 40 141) 113 42 142) 113 43 143) 113 44 144) 113 47 145) 113 48 146) 113 49 147) 114 83 1) 114 84 1) 114 85 1) 114 86 1) 114 87 1) 114 88 1) 114 89 1) 114 90 1) 114 91 1) 114 92 1) 114 93 1) 114 94 1) 114 95 1) 114 96 1) 114 97 1) 114 98 1) 114 99 1) 114 100 1) 114 101 1) 114 102 1) 114 103 1) 114 104 1) 114 105 1) 114 106 1) 114 107 1) 114 108 1) 114 109 1) 114 110 1) 114 111 1) 114 112 1) 114 113 1) 114 114 1) 114 115 1) 114 116 1) 114 117 1) 114 118 1) 114 119 1) 114 120 1) 114 121 1) 114 122 1) 114 123 1) 114 124 1) 114 125 1) 114 126 1) 114 127 1) 114 128 1) 114 129 1) 114 130 1) 114 131 1) 114 132 1) 114 133 1) 114 134 1) 114 135 1) 113 ((0 : Nat) : Int)) (y := 114) (by first | rfl | (simp [z_st, z_mm])) ?_
  refine z_bipush dX12_init_293 (by decide) ?_
  refine z_iload_n dX12_init_295 rfl ?_
  refine z_iadd dX12_init_296 ⟨by decide, by decide⟩ ?_
  refine z_R_sk (x := 83 + 53) (y := 136) rfl ?_
  refine z_iconst dX12_init_297 ⟨by decide, by decide⟩ ?_
  refine z_iast dX12_init_298 ⟨by decide, by decide, by decide +kernel⟩ (by decide) (by decide +kernel) ?_
  have fz122 := z_fz_st (i := 136) (v := 1) fz121 (show ((114 : Int) ≤ 147) by decide)
  refine z_iinc dX12_init_299 rfl (by decide) ⟨by decide, by decide⟩ ?_
  refine z_R_lo (lo1 := [some (2, 113), some (0, 54)]) rfl ?_
  refine z_goto (tgt := 283) dX12_init_302 (by decide) ?_
  refine z_iload_n dX12_init_283 rfl ?_
  refine z_bipush dX12_init_284 (by decide) ?_
  refine z_icmp_ge (tgt := 305) dX12_init_286 (by decide) (fun q => absurd q (by decide)) (fun _ => ?_)
  refine z_aload_n dX12_init_289 rfl ?_
  refine z_getf (t := 2) dX12_init_290 zf_X12_9 ⟨by decide, by decide, by decide +kernel⟩ rfl ?_
  refine z_R_ref (x := (z_st (z_st (z_st (z_st (z_st (z_st (z_st (z_st (z_st (z_st (z_st (z_st (z_st (z_st (z_st (z_st (z_st (z_st (z_st (z_st (z_st (z_st (z_st (z_st (z_st (z_st (z_st (z_st (z_st (z_st (z_st (z_st (z_st (z_st (z_st (z_st (z_st (z_st (z_st (z_st (z_st (z_st (z_st (z_st (z_st (z_st (z_st (z_st (z_st (z_st (z_st (z_st (z_st (z_st (z_st (z_st (z_st (z_st (z_st (z_st (z_st (z_st (z_st (z_st (z_st (z_st (z_st (z_st (z_st (z_st (z_st (z_st (z_st (z_st (z_st (z_st (z_st (z_st (z_st (z_st (z_st (z_st (z_st (z_st (z_st (z_st (z_st (z_st μ 113 0 114) 113 1 115) 113 2 116) 113 3 117) 113 4 118) 113 5 119) 113 7 120) 113 12 121) 113 13 122) 113 14 123) 113 15 124) 113 16 125) 113 17 126) 113 18 127) 113 19 128) 113 20 129) 113 24 130) 113 25 131) 113 26 132) 113 27 133) 113 28 134) 113 29 135) 113 30 136) 113 31 137) 113 35 138) 113 36 139) 113 39 140) 113 40 141) 113 42 142) 113 43 143) 113 44 144) 113 47 145) 113 48 146) 113 49 147) 114 83 1) 114 84 1) 114 85 1) 114 86 1) 114 87 1) 114 88 1) 114 89 1) 114 90 1) 114 91 1) 114 92 1) 114 93 1) 114 94 1) 114 95 1) 114 96 1) 114 97 1) 114 98 1) 114 99 1) 114 100 1) 114 101 1) 114 102 1) 114 103 1) 114 104 1) 114 105 1) 114 106 1) 114 107 1) 114 108 1) 114 109 1) 114 110 1) 114 111 1) 114 112 1) 114 113 1) 114 114 1) 114 115 1) 114 116 1) 114 117 1) 114 118 1) 114 119 1) 114 120 1) 114 121 1) 114 122 1) 114 123 1) 114 124 1) 114 125 1) 114 126 1) 114 127 1) 114 128 1) 114 129 1) 114 130 1) 114 131 1) 114 132 1) 114 133 1) 114 134 1) 114 135 1) 114 136 1) 113 ((0 : Nat) : Int)) (y := 114) (by first | rfl | (simp [z_st, z_mm])) ?_
  refine z_bipush dX12_init_293 (by decide) ?_
  refine z_iload_n dX12_init_295 rfl ?_
  refine z_iadd dX12_init_296 ⟨by decide, by decide⟩ ?_
  refine z_R_sk (x := 83 + 54) (y := 137) rfl ?_
  refine z_iconst dX12_init_297 ⟨by decide, by decide⟩ ?_
  refine z_iast dX12_init_298 ⟨by decide, by decide, by decide +kernel⟩ (by decide) (by decide +kernel) ?_
  have fz123 := z_fz_st (i := 137) (v := 1) fz122 (show ((114 : Int) ≤ 147) by decide)
  refine z_iinc dX12_init_299 rfl (by decide) ⟨by decide, by decide⟩ ?_
  refine z_R_lo (lo1 := [some (2, 113), some (0, 55)]) rfl ?_
  refine z_goto (tgt := 283) dX12_init_302 (by decide) ?_
  refine z_iload_n dX12_init_283 rfl ?_
  refine z_bipush dX12_init_284 (by decide) ?_
  refine z_icmp_ge (tgt := 305) dX12_init_286 (by decide) (fun q => absurd q (by decide)) (fun _ => ?_)
  refine z_aload_n dX12_init_289 rfl ?_
  refine z_getf (t := 2) dX12_init_290 zf_X12_9 ⟨by decide, by decide, by decide +kernel⟩ rfl ?_
  refine z_R_ref (x := (z_st (z_st (z_st (z_st (z_st (z_st (z_st (z_st (z_st (z_st (z_st (z_st (z_st (z_st (z_st (z_st (z_st (z_st (z_st (z_st (z_st (z_st (z_st (z_st (z_st (z_st (z_st (z_st (z_st (z_st (z_st (z_st (z_st (z_st (z_st (z_st (z_st (z_st (z_st (z_st (z_st (z_st (z_st (z_st (z_st (z_st (z_st (z_st (z_st (z_st (z_st (z_st (z_st (z_st (z_st (z_st (z_st (z_st (z_st (z_st (z_st (z_st (z_st (z_st (z_st (z_st (z_st (z_st (z_st (z_st (z_st (z_st (z_st (z_st (z_st (z_st (z_st (z_st (z_st (z_st (z_st (z_st (z_st (z_st (z_st (z_st (z_st (z_st (z_st μ 113 0 114) 113 1 115) 113 2 116) 113 3 117) 113 4 118) 113 5 119) 113 7 120) 113 12 121) 113 13 122) 113 14 123) 113 15 124) 113 16 125) 113 17 126) 113 18 127) 113 19 128) 113 20 129) 113 24 130) 113 25 131) 113 26 132) 113 27 133) 113 28 134) 113 29 135) 113 30 136) 113 31 137) 113 35 138) 113 36 139) 113 39 140) 113 40 141) 113 42 142) 113 43 143) 113 44 144) 113 47 145) 113 48 146) 113 49 147) 114 83 1) 114 84 1) 114 85 1) 114 86 1) 114 87 1) 114 88 1) 114 89 1) 114 90 1) 114 91 1) 114 92 1) 114 93 1) 114 94 1) 114 95 1) 114 96 1) 114 97 1) 114 98 1) 114 99 1) 114 100 1) 114 101 1) 114 102 1) 114 103 1) 114 104 1) 114 105 1) 114 106 1) 114 107 1) 114 108 1) 114 109 1) 114 110 1) 114 111 1) 114 112 1) 114 113 1) 114 114 1) 114 115 1) 114 116 1) 114 117 1) 114 118 1) 114 119 1) 114 120 1) 114 121 1) 114 122 1) 114 123 1) 114 124 1) 114 125 1) 114 126 1) 114 127 1) 114 128 1) 114 129 1) 114 130 1) 114 131 1) 114 132 1) 114 133 1) 114 134 1) 114 135 1) 114 136 1) 114 137 1) 113 ((0 : Nat) : Int)) (y := 114) (by first | rfl | (simp [z_st, z_mm])) ?_
  refine z_bipush dX12_init_293 (by decide) ?_
  refine z_iload_n dX12_init_295 rfl ?_
  refine z_iadd dX12_init_296 ⟨by decide, by decide⟩ ?_
  refine z_R_sk (x := 83 + 55) (y := 138) rfl ?_
  refine z_iconst dX12_init_297 ⟨by decide, by decide⟩ ?_
  refine z_iast dX12_init_298 ⟨by decide, by decide, by decide +kernel⟩ (by decide) (by decide +kernel) ?_
  have fz124 := z_fz_st (i := 138) (v := 1) fz123 (show ((114 : Int) ≤ 147) by decide)
  refine z_iinc dX12_init_299 rfl (by decide) ⟨by decide, by decide⟩ ?_
  refine z_R_lo (lo1 := [some (2, 113), some (0, 56)]) rfl ?_
  refine z_goto (tgt := 283) dX12_init_302 (by decide) ?_
  refine z_iload_n dX12_init_283 rfl ?_
  refine z_bipush dX12_init_284 (by decide) ?_
  refine z_icmp_ge (tgt := 305) dX12_init_286 (by decide) (fun q => absurd q (by decide)) (fun _ => ?_)
  refine z_aload_n dX12_init_289 rfl ?_
  refine z_getf (t := 2) dX12_init_290 zf_X12_9 ⟨by decide, by decide, by decide +kernel⟩ rfl ?_
  refine z_R_ref (x := (z_st (z_st (z_st (z_st (z_st (z_st (z_st (z_st (z_st (z_st (z_st (z_st (z_st (z_st (z_st (z_st (z_st (z_st (z_st (z_st (z_st (z_st (z_st (z_st (z_st (z_st (z_st (z_st (z_st (z_st (z_st (z_st (z_st (z_st (z_st (z_st (z_st (z_st (z_st (z_st (z_st (z_st (z_st (z_st (z_st (z_st (z_st (z_st (z_st (z_st (z_st (z_st (z_st (z_st (z_st (z_st (z_st (z_st (z_st (z_st (z_st (z_st (z_st (z_st (z_st (z_st (z_st (z_st (z_st (z_st (z_st (z_st (z_st (z_st (z_st (z_st (z_st (z_st (z_st (z_st (z_st (z_st (z_st (z_st (z_st (z_st (z_st (z_st (z_st (z_st μ 113 0 114) 113 1 115) 113 2 116) 113 3 117) 113 4 118) 113 5 119) 113 7 120) 113 12 121) 113 13 122) 113 14 123) 113 15 124) 113 16 125) 113 17 126) 113 18 127) 113 19 128) 113 20 129) 113 24 130) 113 25 131) 113 26 132) 113 27 133) 113 28 134) 113 29 135) 113 30 136) 113 31 137) 113 35 138) 113 36 139) 113 39 140) 113 40 141) 113 42 142) 113 43 143) 113 44 144) 113 47 145) 113 48 146) 113 49 147) 114 83 1) 114 84 1) 114 85 1) 114 86 1) 114 87 1) 114 88 1) 114 89 1) 114 90 1) 114 91 1) 114 92 1) 114 93 1) 114 94 1) 114 95 1) 114 96 1) 114 97 1) 114 98 1) 114 99 1) 114 100 1) 114 101 1) 114 102 1) 114 103 1) 114 104 1) 114 105 1) 114 106 1) 114 107 1) 114 108 1) 114 109 1) 114 110 1) 114 111 1) 114 112 1) 114 113 1) 114 114 1) 114 115 1) 114 116 1) 114 117 1) 114 118 1) 114 119 1) 114 120 1) 114 121 1) 114 122 1) 114 123 1) 114 124 1) 114 125 1) 114 126 1) 114 127 1) 114 128 1) 114 129 1) 114 130 1) 114 131 1) 114 132 1) 114 133 1) 114 134 1) 114 135 1) 114 136 1) 114 137 1) 114 138 1) 113 ((0 : Nat) : Int)) (y := 114) (by first | rfl | (simp [z_st, z_mm])) ?_
  refine z_bipush dX12_init_293 (by decide) ?_
  refine z_iload_n dX12_init_295 rfl ?_
  refine z_iadd dX12_init_296 ⟨by decide, by decide⟩ ?_
  refine z_R_sk (x := 83 + 56) (y := 139) rfl ?_
  refine z_iconst dX12_init_297 ⟨by decide, by decide⟩ ?_
  refine z_iast dX12_init_298 ⟨by decide, by decide, by decide +kernel⟩ (by decide) (by decide +kernel) ?_
  have fz125 := z_fz_st (i := 139) (v := 1) fz124 (show ((114 : Int) ≤ 147) by decide)
  refine z_iinc dX12_init_299 rfl (by decide) ⟨by decide, by decide⟩ ?_
  refine z_R_lo (lo1 := [some (2, 113), some (0, 57)]) rfl ?_
  refine z_goto (tgt := 283) dX12_init_302 (by decide) ?_
  refine z_iload_n dX12_init_283 rfl ?_
  refine z_bipush dX12_init_284 (by decide) ?_
  refine z_icmp_ge (tgt := 305) dX12_init_286 (by decide) (fun q => absurd q (by decide)) (fun _ => ?_)
  refine z_aload_n dX12_init_289 rfl ?_
  refine z_getf (t := 2) dX12_init_290 zf_X12_9 ⟨by decide, by decide, by decide +kernel⟩ rfl ?_
  refine z_R_ref (x := (z_st (z_st (z_st (z_st (z_st (z_st (z_st (z_st (z_st (z_st (z_st (z_st (z_st (z_st (z_st (z_st (z_st (z_st (z_st (z_st (z_st (z_st (z_st (z_st (z_st (z_st (z_st (z_st (z_st (z_st (z_st (z_st (z_st (z_st (z_st (z_st (z_st (z_st (z_st (z_st (z_st (z_st (z_st (z_st (z_st (z_st (z_st (z_st (z_st (z_st (z_st (z_st (z_st (z_st (z_st (z_st (z_st (z_st (z_st (z_st (z_st (z_st (z_st (z_st (z_st (z_st (z_st (z_st (z_st (z_st (z_st (z_st (z_st (z_st (z_st (z_st (z_st (z_st (z_st (z_st (z_st (z_st (z_st (z_st (z_st (z_st (z_st (z_st (z_st (z_st (z_st μ 113 0 114) 113 1 115) 113 2 116) 113 3 117) 113 4 118) 113 5 119) 113 7 120) 113 12 121) 113 13 122) 113 14 123) 113 15 124) 113 16 125) 113 17 126) 113 18 127) 113 19 128) 113 20 129) 113 24 130) 113 25 131) 113 26 132) 113 27 133) 113 28 134) 113 29 135) 113 30 136) 113 31 137) 113 35 138) 113 36 139) 113 39 140) 113 40 141) 113 42 142) 113 43 143) 113 44 144) 113 47 145) 113 48 146) 113 49 147) 114 83 1) 114 84 1) 114 85 1) 114 86 1) 114 87 1) 114 88 1) 114 89 1) 114 90 1) 114 91 1) 114 92 1) 114 93 1) 114 94 1) 114 95 1) 114 96 1) 114 97 1) 114 98 1) 114 99 1) 114 100 1) 114 101 1) 114 102 1) 114 103 1) 114 104 1) 114 105 1) 114 106 1) 114 107 1) 114 108 1) 114 109 1) 114 110 1) 114 111 1) 114 112 1) 114 113 1) 114 114 1) 114 115 1) 114 116 1) 114 117 1) 114 118 1) 114 119 1) 114 120 1) 114 121 1) 114 122 1) 114 123 1) 114 124 1) 114 125 1) 114 126 1) 114 127 1) 114 128 1) 114 129 1) 114 130 1) 114 131 1) 114 132 1) 114 133 1) 114 134 1) 114 135 1) 114 136 1) 114 137 1) 114 138 1) 114 139 1) 113 ((0 : Nat) : Int)) (y := 114) (by first | rfl | (simp [z_st, z_mm])) ?_
  refine z_bipush dX12_init_293 (by decide) ?_
  refine z_iload_n dX12_init_295 rfl ?_
  refine z_iadd dX12_init_296 ⟨by decide, by decide⟩ ?_
  refine z_R_sk (x := 83 + 57) (y := 140) rfl ?_
  refine z_iconst dX12_init_297 ⟨by decide, by decide⟩ ?_
  refine z_iast dX12_init_298 ⟨by decide, by decide, by decide +kernel⟩ (by decide) (by decide +kernel) ?_
  have fz126 := z_fz_st (i := 140) (v := 1) fz125 (show ((114 : Int) ≤ 147) by decide)
  refine z_iinc dX12_init_299 rfl (by decide) ⟨by decide, by decide⟩ ?_
  refine z_R_lo (lo1 := [some (2, 113), some (0, 58)]) rfl ?_
  refine z_goto (tgt := 283) dX12_init_302 (by decide) ?_
  refine z_iload_n dX12_init_283 rfl ?_
  refine z_bipush dX12_init_284 (by decide) ?_
  refine z_icmp_ge (tgt := 305) dX12_init_286 (by decide) (fun q => absurd q (by decide)) (fun _ => ?_)
  refine z_aload_n dX12_init_289 rfl ?_
  refine z_getf (t := 2) dX12_init_290 zf_X12_9 ⟨by decide, by decide, by decide +kernel⟩ rfl ?_
  refine z_R_ref (x := (z_st (z_st (z_st (z_st (z_st (z_st (z_st (z_st (z_st (z_st (z_st (z_st (z_st (z_st (z_st (z_st (z_st (z_st (z_st (z_st (z_st (z_st (z_st (z_st (z_st (z_st (z_st (z_st (z_st (z_st (z_st (z_st (z_st (z_st (z_st (z_st (z_st (z_st (z_st (z_st (z_st (z_st (z_st (z_st (z_st (z_st (z_st (z_st (z_st (z_st (z_st (z_st (z_st (z_st (z_st (z_st (z_st (z_st (z_st (z_st (z_st (z_st (z_st (z_st (z_st (z_st (z_st (z_st (z_st (z_st (z_st (z_st (z_st (z_st (z_st (z_st (z_st (z_st (z_st (z_st (z_st (z_st (z_st (z_st (z_st (z_st (z_st (z_st (z_st (z_st (z_st (z_st μ 113 0 114) 113 1 115) 113 2 116) 113 3 117) 113 4 118) 113 5 119) 113 7 120) 113 12 121) 113 13 122) 113 14 123) 113 15 124) 113 16 125) 113 17 126) 113 18 127) 113 19 128) 113 20 129) 113 24 130) 113 25 131) 113 26 132) 113 27 133) 113 28 134) 113 29 135) 113 30 136) 113 31 137) 113 35 138) 113 36 139) 113 39 140) 113 40 141) 113 42 142) 113 43 143) 113 44 144) 113 47 145) 113 48 146) 113 49 147) 114 83 1) 114 84 1) 114 85 1) 114 86 1) 114 87 1) 114 88 1) 114 89 1) 114 90 1) 114 91 1) 114 92 1) 114 93 1) 114 94 1) 114 95 1) 114 96 1) 114 97 1) 114 98 1) 114 99 1) 114 100 1) 114 101 1) 114 102 1) 114 103 1) 114 104 1) 114 105 1) 114 106 1) 114 107 1) 114 108 1) 114 109 1) 114 110 1) 114 111 1) 114 112 1) 114 113 1) 114 114 1) 114 115 1) 114 116 1) 114 117 1) 114 118 1) 114 119 1) 114 120 1) 114 121 1) 114 122 1) 114 123 1) 114 124 1) 114 125 1) 114 126 1) 114 127 1) 114 128 1) 114 129 1) 114 130 1) 114 131 1) 114 132 1) 114 133 1) 114 134 1) 114 135 1) 114 136 1) 114 137 1) 114 138 1) 114 139 1) 114 140 1) 113 ((0 : Nat) : Int)) (y := 114) (by first | rfl | (simp [z_st, z_mm])) ?_
  refine z_bipush dX12_init_293 (by decide) ?_
  refine z_iload_n dX12_init_295 rfl ?_
  refine z_iadd dX12_init_296 ⟨by decide, by decide⟩ ?_
  refine z_R_sk (x := 83 + 58) (y := 141) rfl ?_
  refine z_iconst dX12_init_297 ⟨by decide, by decide⟩ ?_
  refine z_iast dX12_init_298 ⟨by decide, by decide, by decide +kernel⟩ (by decide) (by decide +kernel) ?_
  have fz127 := z_fz_st (i := 141) (v := 1) fz126 (show ((114 : Int) ≤ 147) by decide)
  refine z_iinc dX12_init_299 rfl (by decide) ⟨by decide, by decide⟩ ?_
  refine z_R_lo (lo1 := [some (2, 113), some (0, 59)]) rfl ?_
  refine z_goto (tgt := 283) dX12_init_302 (by decide) ?_
  refine z_iload_n dX12_init_283 rfl ?_
  refine z_bipush dX12_init_284 (by decide) ?_
  refine z_icmp_ge (tgt := 305) dX12_init_286 (by decide) (fun q => absurd q (by decide)) (fun _ => ?_)
  refine z_aload_n dX12_init_289 rfl ?_
  refine z_getf (t := 2) dX12_init_290 zf_X12_9 ⟨by decide, by decide, by decide +kernel⟩ rfl ?_
  refine z_R_ref (x := (z_st (z_st (z_st (z_st (z_st (z_st (z_st (z_st (z_st (z_st (z_st (z_st (z_st (z_st (z_st (z_st (z_st (z_st (z_st (z_st (z_st (z_st (z_st (z_st (z_st (z_st (z_st (z_st (z_st (z_st (z_st (z_st (z_st (z_st (z_st (z_st (z_st (z_st (z_st (z_st (z_st (z_st (z_st (z_st (z_st (z_st (z_st (z_st (z_st (z_st (z_st (z_st (z_st (z_st (z_st (z_st (z_st (z_st (z_st (z_st (z_st (z_st (z_st (z_st (z_st (z_st (z_st (z_st (z_st (z_st (z_st (z_st (z_st (z_st (z_st (z_st (z_st (z_st (z_st (z_st (z_st (z_st (z_st (z_st (z_st (z_st (z_st (z_st (z_st (z_st (z_st (z_st (z_st μ 113 0 114) 113 1 115) 113 2 116) 113 3 117) 113 4 118) 113 5 119) 113 7 120) 113 12 121) 113 13 122) 113 14 123) 113 15 124) 113 16 125) 113 17 126) 113 18 127) 113 19 128) 113 20 129) 113 24 130) 113 25 131) 113 26 132) 113 27 133) 113 28 134) 113 29 135) 113 30 136) 113 31 137) 113 35 138) 113 36 139) 113 39 140) 113 40 141) 113 42 142) 113 43 143) 113 44 144) 113 47 145) 113 48 146) 113 49 147) 114 83 1) 114 84 1) 114 85 1) 114 86 1) 114 87 1) 114 88 1) 114 89 1) 114 90 1) 114 91 1) 114 92 1) 114 93 1) 114 94 1) 114 95 1) 114 96 1) 114 97 1) 114 98 1) 114 99 1) 114 100 1) 114 101 1) 114 102 1) 114 103 1) 114 104 1) 114 105 1) 114 106 1) 114 107 1) 114 108 1) 114 109 1) 114 110 1) 114 111 1) 114 112 1) 114 113 1) 114 114 1) 114 115 1) 114 116 1) 114 117 1) 114 118 1) 114 119 1) 114 120 1) 114 121 1) 114 122 1) 114 123 1) 114 124 1) 114 125 1) 114 126 1) 114 127 1) 114 128 1) 114 129 1) 114 130 1) 114 131 1) 114 132 1) 114 133 1) 114 134 1) 114 135 1) 114 136 1) 114 137 1) 114 138 1) 114 139 1) 114 140 1) 114 141 1) 113 ((0 : Nat) : Int)) (y := 114) (by first | rfl | (simp [z_st, z_mm])) ?_
  refine z_bipush dX12_init_293 (by decide) ?_
  refine z_iload_n dX12_init_295 rfl ?_
  refine z_iadd dX12_init_296 ⟨by decide, by decide⟩ ?_
  refine z_R_sk (x := 83 + 59) (y := 142) rfl ?_
  refine z_iconst dX12_init_297 ⟨by decide, by decide⟩ ?_
  refine z_iast dX12_init_298 ⟨by decide, by decide, by decide +kernel⟩ (by decide) (by decide +kernel) ?_
  have fz128 := z_fz_st (i := 142) (v := 1) fz127 (show ((114 : Int) ≤ 147) by decide)
  refine z_iinc dX12_init_299 rfl (by decide) ⟨by decide, by decide⟩ ?_
  refine z_R_lo (lo1 := [some (2, 113), some (0, 60)]) rfl ?_
  refine z_goto (tgt := 283) dX12_init_302 (by decide) ?_
  refine z_iload_n dX12_init_283 rfl ?_
  refine z_bipush dX12_init_284 (by decide) ?_
  refine z_icmp_ge (tgt := 305) dX12_init_286 (by decide) (fun _ => ?_) (fun q => absurd q (by decide))
  exact z_return dX12_init_305 rfl rfl h

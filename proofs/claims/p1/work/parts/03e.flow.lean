theorem z_catv {ad : Nat → Nat} {v : z_V} (h : z_cat v = 1) : (z_val ad v).category = 1 := by
  unfold z_cat at h
  by_cases h1 : v.1 = 1
  · rw [if_pos h1] at h
    cases h
  · unfold z_val va_rf
    split
    · exact absurd ‹_› h1
    · split <;> rfl
    · rfl
theorem z_catv2 {ad : Nat → Nat} {v : z_V} (h : v.1 = 1) : (z_val ad v).category = 2 := by
  unfold z_val
  rw [h]
  rfl
theorem z_catc {ad : Nat → Nat} {v : z_V} : (z_val ad v).category = z_cat v := by
  by_cases h : v.1 = 1
  · rw [z_catv2 h]
    unfold z_cat
    rw [if_pos h]
  · have h2 : z_cat v = 1 := if_neg h
    rw [z_catv h2, h2]
theorem z_lcmpv {a b : Int} (ha : z_J a) (hb : z_J b) : ∃ z : Int, lg_cmp (Int64.ofInt a) (Int64.ofInt b) = Int32.ofInt z ∧ z_I z ∧ ((z < 0 ↔ a < b) ∧ (z = 0 ↔ a = b) ∧ (0 < z ↔ b < a)) := by
  unfold lg_cmp
  rcases Int.lt_trichotomy a b with h | h | h
  · refine ⟨-1, ?_, ⟨by decide, by decide⟩, by omega, by omega, by omega⟩
    have := (z_lt64 ha hb).mpr h
    have hne : ¬ Int64.ofInt a = Int64.ofInt b := fun q => by have := (z_eq64 ha hb).mp q; omega
    simp [this, lg_lt_not this, hne]
    try rfl
  · subst h
    refine ⟨0, ?_, ⟨by decide, by decide⟩, by omega, by omega, by omega⟩
    simp
    try rfl
  · refine ⟨1, ?_, ⟨by decide, by decide⟩, by omega, by omega, by omega⟩
    have := (z_lt64 hb ha).mpr h
    have hne : ¬ Int64.ofInt a = Int64.ofInt b := fun q => by have := (z_eq64 ha hb).mp q; omega
    simp [this, lg_lt_not this, hne]
    try rfl
section ZF
variable {M : z_M} {pc : Nat} {lo lo' : List (Option z_V)} {sk : List z_V} {w : z_W} {μ : z_Mem} {d : Nat} {Q : Option z_V → z_Mem → Prop} {a b x y : Int}
theorem z_dup {v : z_V} (hd : decode M.2.1 pc = .ok (.dup, 1)) (hv : z_cat v = 1) (h : z_R M (pc + 1) lo (v :: v :: sk) w μ d Q) : z_R M pc lo (v :: sk) w μ d Q := by
  intro p l e R s m args below meth c H locs cells slots D cy ad A ls hC hG hr hh hl ha hb hk
  exact lv_dup hC.1 hC.2.1 hd (z_catv hv) (h p l e R s m args below meth c H locs cells slots D cy ad A ls hC hG hr hh hl ⟨ha.1, ha⟩ hb hk)
theorem z_pop {v : z_V} (hd : decode M.2.1 pc = .ok (.pop, 1)) (hv : z_cat v = 1) (h : z_R M (pc + 1) lo sk w μ d Q) : z_R M pc lo (v :: sk) w μ d Q := by
  intro p l e R s m args below meth c H locs cells slots D cy ad A ls hC hG hr hh hl ha hb hk
  exact lv_pop hC.1 hC.2.1 hd (z_catv hv) (h p l e R s m args below meth c H locs cells slots D cy ad A ls hC hG hr hh hl ha.2 hb hk)
theorem z_dup2 {v u : z_V} (hd : decode M.2.1 pc = .ok (.dup2, 1)) (hv : z_cat v = 1) (hu : z_cat u = 1) (h : z_R M (pc + 1) lo (v :: u :: v :: u :: sk) w μ d Q) : z_R M pc lo (v :: u :: sk) w μ d Q := by
  intro p l e R s m args below meth c H locs cells slots D cy ad A ls hC hG hr hh hl ha hb hk
  exact lv_dup2_11 hC.1 hC.2.1 hd (z_catv hv) (z_catv hu) (h p l e R s m args below meth c H locs cells slots D cy ad A ls hC hG hr hh hl ⟨ha.1, ha.2.1, ha⟩ hb hk)
theorem z_goto {off : Int} {tgt : Nat} (hd : decode M.2.1 pc = .ok (.goto off, 3)) (ht : (pc : Int) + off = (tgt : Int)) (h : z_R M tgt lo sk w μ d Q) : z_R M pc lo sk w μ d Q := by
  intro p l e R s m args below meth c H locs cells slots D cy ad A ls hC hG hr hh hl ha hb hk
  exact lv_goto hC.1 hC.2.1 hd ht (h p l e R s m args below meth c H locs cells slots D cy ad A ls hC hG hr hh hl ha hb hk)
theorem z_icmp_eq {off : Int} {tgt : Nat} (hd : decode M.2.1 pc = .ok (.if_icmp .eq off, 3)) (ht : (pc : Int) + off = (tgt : Int)) (h1 : a = b → z_R M tgt lo sk w μ d Q) (h2 : ¬ a = b → z_R M (pc + 3) lo sk w μ d Q) : z_R M pc lo ((0, b) :: (0, a) :: sk) w μ d Q := by
  intro p l e R s m args below meth c H locs cells slots D cy ad A ls hC hG hr hh hl ha hb hk
  obtain ⟨ha1, ha2, ha⟩ := ha
  have ha1 : z_I b := ha1
  have ha2 : z_I a := ha2
  have e1 := z_eq32 ha2 ha1
  have e2 := z_lt32 ha2 ha1
  have e3 := z_lt32 ha1 ha2
  have e4 := z_le32 ha2 ha1
  have e5 := z_le32 ha1 ha2
  refine lv_icmp_eq hC.1 hC.2.1 hd ht (fun q => h1 ?_ p l e R s m args below meth c H locs cells slots D cy ad A ls hC hG hr hh hl ha hb hk) (fun q => h2 ?_ p l e R s m args below meth c H locs cells slots D cy ad A ls hC hG hr hh hl ha hb hk)
  · first | exact e1.mp q | exact fun z => q (e1.mpr z) | exact e2.mp q | exact e3.mp q | exact e4.mp q | exact e5.mp q
  · first | exact e1.mp q | exact fun z => q (e1.mpr z) | exact Classical.byContradiction (fun z => q (fun y => z (e1.mp y))) | exact Int.not_lt.mp (fun z => q (e2.mpr z)) | exact Int.not_lt.mp (fun z => q (e3.mpr z)) | exact Int.not_le.mp (fun z => q (e4.mpr z)) | exact Int.not_le.mp (fun z => q (e5.mpr z))
theorem z_if_eq {off : Int} {tgt : Nat} (hd : decode M.2.1 pc = .ok (.ifCond .eq off, 3)) (ht : (pc : Int) + off = (tgt : Int)) (h1 : a = 0 → z_R M tgt lo sk w μ d Q) (h2 : ¬ a = 0 → z_R M (pc + 3) lo sk w μ d Q) : z_R M pc lo ((0, a) :: sk) w μ d Q := by
  intro p l e R s m args below meth c H locs cells slots D cy ad A ls hC hG hr hh hl ha hb hk
  obtain ⟨ha2, ha⟩ := ha
  have ha2 : z_I a := ha2
  have ha1 : z_I 0 := z_I0
  have e1 := z_eq32 ha2 ha1
  have e2 := z_lt32 ha2 ha1
  have e3 := z_lt32 ha1 ha2
  have e4 := z_le32 ha2 ha1
  have e5 := z_le32 ha1 ha2
  rw [z_0_32] at e1 e2 e3 e4 e5
  refine lv_if_eq hC.1 hC.2.1 hd ht (fun q => h1 ?_ p l e R s m args below meth c H locs cells slots D cy ad A ls hC hG hr hh hl ha hb hk) (fun q => h2 ?_ p l e R s m args below meth c H locs cells slots D cy ad A ls hC hG hr hh hl ha hb hk)
  · first | exact e1.mp q | exact fun z => q (e1.mpr z) | exact e2.mp q | exact e3.mp q | exact e4.mp q | exact e5.mp q
  · first | exact e1.mp q | exact fun z => q (e1.mpr z) | exact Classical.byContradiction (fun z => q (fun y => z (e1.mp y))) | exact Int.not_lt.mp (fun z => q (e2.mpr z)) | exact Int.not_lt.mp (fun z => q (e3.mpr z)) | exact Int.not_le.mp (fun z => q (e4.mpr z)) | exact Int.not_le.mp (fun z => q (e5.mpr z))
theorem z_icmp_ne {off : Int} {tgt : Nat} (hd : decode M.2.1 pc = .ok (.if_icmp .ne off, 3)) (ht : (pc : Int) + off = (tgt : Int)) (h1 : ¬ a = b → z_R M tgt lo sk w μ d Q) (h2 : a = b → z_R M (pc + 3) lo sk w μ d Q) : z_R M pc lo ((0, b) :: (0, a) :: sk) w μ d Q := by
  intro p l e R s m args below meth c H locs cells slots D cy ad A ls hC hG hr hh hl ha hb hk
  obtain ⟨ha1, ha2, ha⟩ := ha
  have ha1 : z_I b := ha1
  have ha2 : z_I a := ha2
  have e1 := z_eq32 ha2 ha1
  have e2 := z_lt32 ha2 ha1
  have e3 := z_lt32 ha1 ha2
  have e4 := z_le32 ha2 ha1
  have e5 := z_le32 ha1 ha2
  refine lv_icmp_ne hC.1 hC.2.1 hd ht (fun q => h1 ?_ p l e R s m args below meth c H locs cells slots D cy ad A ls hC hG hr hh hl ha hb hk) (fun q => h2 ?_ p l e R s m args below meth c H locs cells slots D cy ad A ls hC hG hr hh hl ha hb hk)
  · first | exact e1.mp q | exact fun z => q (e1.mpr z) | exact e2.mp q | exact e3.mp q | exact e4.mp q | exact e5.mp q
  · first | exact e1.mp q | exact fun z => q (e1.mpr z) | exact Classical.byContradiction (fun z => q (fun y => z (e1.mp y))) | exact Int.not_lt.mp (fun z => q (e2.mpr z)) | exact Int.not_lt.mp (fun z => q (e3.mpr z)) | exact Int.not_le.mp (fun z => q (e4.mpr z)) | exact Int.not_le.mp (fun z => q (e5.mpr z))
theorem z_if_ne {off : Int} {tgt : Nat} (hd : decode M.2.1 pc = .ok (.ifCond .ne off, 3)) (ht : (pc : Int) + off = (tgt : Int)) (h1 : ¬ a = 0 → z_R M tgt lo sk w μ d Q) (h2 : a = 0 → z_R M (pc + 3) lo sk w μ d Q) : z_R M pc lo ((0, a) :: sk) w μ d Q := by
  intro p l e R s m args below meth c H locs cells slots D cy ad A ls hC hG hr hh hl ha hb hk
  obtain ⟨ha2, ha⟩ := ha
  have ha2 : z_I a := ha2
  have ha1 : z_I 0 := z_I0
  have e1 := z_eq32 ha2 ha1
  have e2 := z_lt32 ha2 ha1
  have e3 := z_lt32 ha1 ha2
  have e4 := z_le32 ha2 ha1
  have e5 := z_le32 ha1 ha2
  rw [z_0_32] at e1 e2 e3 e4 e5
  refine lv_if_ne hC.1 hC.2.1 hd ht (fun q => h1 ?_ p l e R s m args below meth c H locs cells slots D cy ad A ls hC hG hr hh hl ha hb hk) (fun q => h2 ?_ p l e R s m args below meth c H locs cells slots D cy ad A ls hC hG hr hh hl ha hb hk)
  · first | exact e1.mp q | exact fun z => q (e1.mpr z) | exact e2.mp q | exact e3.mp q | exact e4.mp q | exact e5.mp q
  · first | exact e1.mp q | exact fun z => q (e1.mpr z) | exact Classical.byContradiction (fun z => q (fun y => z (e1.mp y))) | exact Int.not_lt.mp (fun z => q (e2.mpr z)) | exact Int.not_lt.mp (fun z => q (e3.mpr z)) | exact Int.not_le.mp (fun z => q (e4.mpr z)) | exact Int.not_le.mp (fun z => q (e5.mpr z))
theorem z_icmp_lt {off : Int} {tgt : Nat} (hd : decode M.2.1 pc = .ok (.if_icmp .lt off, 3)) (ht : (pc : Int) + off = (tgt : Int)) (h1 : a < b → z_R M tgt lo sk w μ d Q) (h2 : b ≤ a → z_R M (pc + 3) lo sk w μ d Q) : z_R M pc lo ((0, b) :: (0, a) :: sk) w μ d Q := by
  intro p l e R s m args below meth c H locs cells slots D cy ad A ls hC hG hr hh hl ha hb hk
  obtain ⟨ha1, ha2, ha⟩ := ha
  have ha1 : z_I b := ha1
  have ha2 : z_I a := ha2
  have e1 := z_eq32 ha2 ha1
  have e2 := z_lt32 ha2 ha1
  have e3 := z_lt32 ha1 ha2
  have e4 := z_le32 ha2 ha1
  have e5 := z_le32 ha1 ha2
  refine lv_icmp_lt hC.1 hC.2.1 hd ht (fun q => h1 ?_ p l e R s m args below meth c H locs cells slots D cy ad A ls hC hG hr hh hl ha hb hk) (fun q => h2 ?_ p l e R s m args below meth c H locs cells slots D cy ad A ls hC hG hr hh hl ha hb hk)
  · first | exact e1.mp q | exact fun z => q (e1.mpr z) | exact e2.mp q | exact e3.mp q | exact e4.mp q | exact e5.mp q
  · first | exact e1.mp q | exact fun z => q (e1.mpr z) | exact Classical.byContradiction (fun z => q (fun y => z (e1.mp y))) | exact Int.not_lt.mp (fun z => q (e2.mpr z)) | exact Int.not_lt.mp (fun z => q (e3.mpr z)) | exact Int.not_le.mp (fun z => q (e4.mpr z)) | exact Int.not_le.mp (fun z => q (e5.mpr z))
theorem z_if_lt {off : Int} {tgt : Nat} (hd : decode M.2.1 pc = .ok (.ifCond .lt off, 3)) (ht : (pc : Int) + off = (tgt : Int)) (h1 : a < 0 → z_R M tgt lo sk w μ d Q) (h2 : 0 ≤ a → z_R M (pc + 3) lo sk w μ d Q) : z_R M pc lo ((0, a) :: sk) w μ d Q := by
  intro p l e R s m args below meth c H locs cells slots D cy ad A ls hC hG hr hh hl ha hb hk
  obtain ⟨ha2, ha⟩ := ha
  have ha2 : z_I a := ha2
  have ha1 : z_I 0 := z_I0
  have e1 := z_eq32 ha2 ha1
  have e2 := z_lt32 ha2 ha1
  have e3 := z_lt32 ha1 ha2
  have e4 := z_le32 ha2 ha1
  have e5 := z_le32 ha1 ha2
  rw [z_0_32] at e1 e2 e3 e4 e5
  refine lv_if_lt hC.1 hC.2.1 hd ht (fun q => h1 ?_ p l e R s m args below meth c H locs cells slots D cy ad A ls hC hG hr hh hl ha hb hk) (fun q => h2 ?_ p l e R s m args below meth c H locs cells slots D cy ad A ls hC hG hr hh hl ha hb hk)
  · first | exact e1.mp q | exact fun z => q (e1.mpr z) | exact e2.mp q | exact e3.mp q | exact e4.mp q | exact e5.mp q
  · first | exact e1.mp q | exact fun z => q (e1.mpr z) | exact Classical.byContradiction (fun z => q (fun y => z (e1.mp y))) | exact Int.not_lt.mp (fun z => q (e2.mpr z)) | exact Int.not_lt.mp (fun z => q (e3.mpr z)) | exact Int.not_le.mp (fun z => q (e4.mpr z)) | exact Int.not_le.mp (fun z => q (e5.mpr z))
theorem z_icmp_ge {off : Int} {tgt : Nat} (hd : decode M.2.1 pc = .ok (.if_icmp .ge off, 3)) (ht : (pc : Int) + off = (tgt : Int)) (h1 : b ≤ a → z_R M tgt lo sk w μ d Q) (h2 : a < b → z_R M (pc + 3) lo sk w μ d Q) : z_R M pc lo ((0, b) :: (0, a) :: sk) w μ d Q := by
  intro p l e R s m args below meth c H locs cells slots D cy ad A ls hC hG hr hh hl ha hb hk
  obtain ⟨ha1, ha2, ha⟩ := ha
  have ha1 : z_I b := ha1
  have ha2 : z_I a := ha2
  have e1 := z_eq32 ha2 ha1
  have e2 := z_lt32 ha2 ha1
  have e3 := z_lt32 ha1 ha2
  have e4 := z_le32 ha2 ha1
  have e5 := z_le32 ha1 ha2
  refine lv_icmp_ge hC.1 hC.2.1 hd ht (fun q => h1 ?_ p l e R s m args below meth c H locs cells slots D cy ad A ls hC hG hr hh hl ha hb hk) (fun q => h2 ?_ p l e R s m args below meth c H locs cells slots D cy ad A ls hC hG hr hh hl ha hb hk)
  · first | exact e1.mp q | exact fun z => q (e1.mpr z) | exact e2.mp q | exact e3.mp q | exact e4.mp q | exact e5.mp q
  · first | exact e1.mp q | exact fun z => q (e1.mpr z) | exact Classical.byContradiction (fun z => q (fun y => z (e1.mp y))) | exact Int.not_lt.mp (fun z => q (e2.mpr z)) | exact Int.not_lt.mp (fun z => q (e3.mpr z)) | exact Int.not_le.mp (fun z => q (e4.mpr z)) | exact Int.not_le.mp (fun z => q (e5.mpr z))
theorem z_if_ge {off : Int} {tgt : Nat} (hd : decode M.2.1 pc = .ok (.ifCond .ge off, 3)) (ht : (pc : Int) + off = (tgt : Int)) (h1 : 0 ≤ a → z_R M tgt lo sk w μ d Q) (h2 : a < 0 → z_R M (pc + 3) lo sk w μ d Q) : z_R M pc lo ((0, a) :: sk) w μ d Q := by
  intro p l e R s m args below meth c H locs cells slots D cy ad A ls hC hG hr hh hl ha hb hk
  obtain ⟨ha2, ha⟩ := ha
  have ha2 : z_I a := ha2
  have ha1 : z_I 0 := z_I0
  have e1 := z_eq32 ha2 ha1
  have e2 := z_lt32 ha2 ha1
  have e3 := z_lt32 ha1 ha2
  have e4 := z_le32 ha2 ha1
  have e5 := z_le32 ha1 ha2
  rw [z_0_32] at e1 e2 e3 e4 e5
  refine lv_if_ge hC.1 hC.2.1 hd ht (fun q => h1 ?_ p l e R s m args below meth c H locs cells slots D cy ad A ls hC hG hr hh hl ha hb hk) (fun q => h2 ?_ p l e R s m args below meth c H locs cells slots D cy ad A ls hC hG hr hh hl ha hb hk)
  · first | exact e1.mp q | exact fun z => q (e1.mpr z) | exact e2.mp q | exact e3.mp q | exact e4.mp q | exact e5.mp q
  · first | exact e1.mp q | exact fun z => q (e1.mpr z) | exact Classical.byContradiction (fun z => q (fun y => z (e1.mp y))) | exact Int.not_lt.mp (fun z => q (e2.mpr z)) | exact Int.not_lt.mp (fun z => q (e3.mpr z)) | exact Int.not_le.mp (fun z => q (e4.mpr z)) | exact Int.not_le.mp (fun z => q (e5.mpr z))
theorem z_icmp_gt {off : Int} {tgt : Nat} (hd : decode M.2.1 pc = .ok (.if_icmp .gt off, 3)) (ht : (pc : Int) + off = (tgt : Int)) (h1 : b < a → z_R M tgt lo sk w μ d Q) (h2 : a ≤ b → z_R M (pc + 3) lo sk w μ d Q) : z_R M pc lo ((0, b) :: (0, a) :: sk) w μ d Q := by
  intro p l e R s m args below meth c H locs cells slots D cy ad A ls hC hG hr hh hl ha hb hk
  obtain ⟨ha1, ha2, ha⟩ := ha
  have ha1 : z_I b := ha1
  have ha2 : z_I a := ha2
  have e1 := z_eq32 ha2 ha1
  have e2 := z_lt32 ha2 ha1
  have e3 := z_lt32 ha1 ha2
  have e4 := z_le32 ha2 ha1
  have e5 := z_le32 ha1 ha2
  refine lv_icmp_gt hC.1 hC.2.1 hd ht (fun q => h1 ?_ p l e R s m args below meth c H locs cells slots D cy ad A ls hC hG hr hh hl ha hb hk) (fun q => h2 ?_ p l e R s m args below meth c H locs cells slots D cy ad A ls hC hG hr hh hl ha hb hk)
  · first | exact e1.mp q | exact fun z => q (e1.mpr z) | exact e2.mp q | exact e3.mp q | exact e4.mp q | exact e5.mp q
  · first | exact e1.mp q | exact fun z => q (e1.mpr z) | exact Classical.byContradiction (fun z => q (fun y => z (e1.mp y))) | exact Int.not_lt.mp (fun z => q (e2.mpr z)) | exact Int.not_lt.mp (fun z => q (e3.mpr z)) | exact Int.not_le.mp (fun z => q (e4.mpr z)) | exact Int.not_le.mp (fun z => q (e5.mpr z))
theorem z_if_gt {off : Int} {tgt : Nat} (hd : decode M.2.1 pc = .ok (.ifCond .gt off, 3)) (ht : (pc : Int) + off = (tgt : Int)) (h1 : 0 < a → z_R M tgt lo sk w μ d Q) (h2 : a ≤ 0 → z_R M (pc + 3) lo sk w μ d Q) : z_R M pc lo ((0, a) :: sk) w μ d Q := by
  intro p l e R s m args below meth c H locs cells slots D cy ad A ls hC hG hr hh hl ha hb hk
  obtain ⟨ha2, ha⟩ := ha
  have ha2 : z_I a := ha2
  have ha1 : z_I 0 := z_I0
  have e1 := z_eq32 ha2 ha1
  have e2 := z_lt32 ha2 ha1
  have e3 := z_lt32 ha1 ha2
  have e4 := z_le32 ha2 ha1
  have e5 := z_le32 ha1 ha2
  rw [z_0_32] at e1 e2 e3 e4 e5
  refine lv_if_gt hC.1 hC.2.1 hd ht (fun q => h1 ?_ p l e R s m args below meth c H locs cells slots D cy ad A ls hC hG hr hh hl ha hb hk) (fun q => h2 ?_ p l e R s m args below meth c H locs cells slots D cy ad A ls hC hG hr hh hl ha hb hk)
  · first | exact e1.mp q | exact fun z => q (e1.mpr z) | exact e2.mp q | exact e3.mp q | exact e4.mp q | exact e5.mp q
  · first | exact e1.mp q | exact fun z => q (e1.mpr z) | exact Classical.byContradiction (fun z => q (fun y => z (e1.mp y))) | exact Int.not_lt.mp (fun z => q (e2.mpr z)) | exact Int.not_lt.mp (fun z => q (e3.mpr z)) | exact Int.not_le.mp (fun z => q (e4.mpr z)) | exact Int.not_le.mp (fun z => q (e5.mpr z))
theorem z_icmp_le {off : Int} {tgt : Nat} (hd : decode M.2.1 pc = .ok (.if_icmp .le off, 3)) (ht : (pc : Int) + off = (tgt : Int)) (h1 : a ≤ b → z_R M tgt lo sk w μ d Q) (h2 : b < a → z_R M (pc + 3) lo sk w μ d Q) : z_R M pc lo ((0, b) :: (0, a) :: sk) w μ d Q := by
  intro p l e R s m args below meth c H locs cells slots D cy ad A ls hC hG hr hh hl ha hb hk
  obtain ⟨ha1, ha2, ha⟩ := ha
  have ha1 : z_I b := ha1
  have ha2 : z_I a := ha2
  have e1 := z_eq32 ha2 ha1
  have e2 := z_lt32 ha2 ha1
  have e3 := z_lt32 ha1 ha2
  have e4 := z_le32 ha2 ha1
  have e5 := z_le32 ha1 ha2
  refine lv_icmp_le hC.1 hC.2.1 hd ht (fun q => h1 ?_ p l e R s m args below meth c H locs cells slots D cy ad A ls hC hG hr hh hl ha hb hk) (fun q => h2 ?_ p l e R s m args below meth c H locs cells slots D cy ad A ls hC hG hr hh hl ha hb hk)
  · first | exact e1.mp q | exact fun z => q (e1.mpr z) | exact e2.mp q | exact e3.mp q | exact e4.mp q | exact e5.mp q
  · first | exact e1.mp q | exact fun z => q (e1.mpr z) | exact Classical.byContradiction (fun z => q (fun y => z (e1.mp y))) | exact Int.not_lt.mp (fun z => q (e2.mpr z)) | exact Int.not_lt.mp (fun z => q (e3.mpr z)) | exact Int.not_le.mp (fun z => q (e4.mpr z)) | exact Int.not_le.mp (fun z => q (e5.mpr z))
theorem z_if_le {off : Int} {tgt : Nat} (hd : decode M.2.1 pc = .ok (.ifCond .le off, 3)) (ht : (pc : Int) + off = (tgt : Int)) (h1 : a ≤ 0 → z_R M tgt lo sk w μ d Q) (h2 : 0 < a → z_R M (pc + 3) lo sk w μ d Q) : z_R M pc lo ((0, a) :: sk) w μ d Q := by
  intro p l e R s m args below meth c H locs cells slots D cy ad A ls hC hG hr hh hl ha hb hk
  obtain ⟨ha2, ha⟩ := ha
  have ha2 : z_I a := ha2
  have ha1 : z_I 0 := z_I0
  have e1 := z_eq32 ha2 ha1
  have e2 := z_lt32 ha2 ha1
  have e3 := z_lt32 ha1 ha2
  have e4 := z_le32 ha2 ha1
  have e5 := z_le32 ha1 ha2
  rw [z_0_32] at e1 e2 e3 e4 e5
  refine lv_if_le hC.1 hC.2.1 hd ht (fun q => h1 ?_ p l e R s m args below meth c H locs cells slots D cy ad A ls hC hG hr hh hl ha hb hk) (fun q => h2 ?_ p l e R s m args below meth c H locs cells slots D cy ad A ls hC hG hr hh hl ha hb hk)
  · first | exact e1.mp q | exact fun z => q (e1.mpr z) | exact e2.mp q | exact e3.mp q | exact e4.mp q | exact e5.mp q
  · first | exact e1.mp q | exact fun z => q (e1.mpr z) | exact Classical.byContradiction (fun z => q (fun y => z (e1.mp y))) | exact Int.not_lt.mp (fun z => q (e2.mpr z)) | exact Int.not_lt.mp (fun z => q (e3.mpr z)) | exact Int.not_le.mp (fun z => q (e4.mpr z)) | exact Int.not_le.mp (fun z => q (e5.mpr z))
theorem z_lcmp_eq {off : Int} {tgt : Nat} (hd0 : decode M.2.1 pc = .ok (.lcmp, 1)) (hd : decode M.2.1 (pc + 1) = .ok (.ifCond .eq off, 3)) (ht : ((pc + 1 : Nat) : Int) + off = (tgt : Int)) (h1 : a = b → z_R M tgt lo sk w μ d Q) (h2 : ¬ a = b → z_R M (pc + 1 + 3) lo sk w μ d Q) : z_R M pc lo ((1, b) :: (1, a) :: sk) w μ d Q := by
  intro p l e R s m args below meth c H locs cells slots D cy ad A ls hC hG hr hh hl ha hb hk
  obtain ⟨ha1, ha2, ha⟩ := ha
  have ha1 : z_J b := ha1
  have ha2 : z_J a := ha2
  refine W.lcmp hC.1 hC.2.1 hd0 ?_
  have hcmp : ∃ z : Int, lg_cmp (Int64.ofInt a) (Int64.ofInt b) = Int32.ofInt z ∧ z_I z ∧ ((z < 0 ↔ a < b) ∧ (z = 0 ↔ a = b) ∧ (0 < z ↔ b < a)) := z_lcmpv ha2 ha1
  obtain ⟨z, hz, hzI, hz1, hz2, hz3⟩ := hcmp
  rw [hz]
  exact z_if_eq (lo := lo) (sk := sk) hd ht (fun q => h1 (by omega)) (fun q => h2 (by omega)) p l e R s m args below meth c H locs cells slots D cy ad A ls hC hG hr hh hl ⟨hzI, ha⟩ hb hk
theorem z_lcmp_ne {off : Int} {tgt : Nat} (hd0 : decode M.2.1 pc = .ok (.lcmp, 1)) (hd : decode M.2.1 (pc + 1) = .ok (.ifCond .ne off, 3)) (ht : ((pc + 1 : Nat) : Int) + off = (tgt : Int)) (h1 : ¬ a = b → z_R M tgt lo sk w μ d Q) (h2 : a = b → z_R M (pc + 1 + 3) lo sk w μ d Q) : z_R M pc lo ((1, b) :: (1, a) :: sk) w μ d Q := by
  intro p l e R s m args below meth c H locs cells slots D cy ad A ls hC hG hr hh hl ha hb hk
  obtain ⟨ha1, ha2, ha⟩ := ha
  have ha1 : z_J b := ha1
  have ha2 : z_J a := ha2
  refine W.lcmp hC.1 hC.2.1 hd0 ?_
  have hcmp : ∃ z : Int, lg_cmp (Int64.ofInt a) (Int64.ofInt b) = Int32.ofInt z ∧ z_I z ∧ ((z < 0 ↔ a < b) ∧ (z = 0 ↔ a = b) ∧ (0 < z ↔ b < a)) := z_lcmpv ha2 ha1
  obtain ⟨z, hz, hzI, hz1, hz2, hz3⟩ := hcmp
  rw [hz]
  exact z_if_ne (lo := lo) (sk := sk) hd ht (fun q => h1 (by omega)) (fun q => h2 (by omega)) p l e R s m args below meth c H locs cells slots D cy ad A ls hC hG hr hh hl ⟨hzI, ha⟩ hb hk
theorem z_lcmp_lt {off : Int} {tgt : Nat} (hd0 : decode M.2.1 pc = .ok (.lcmp, 1)) (hd : decode M.2.1 (pc + 1) = .ok (.ifCond .lt off, 3)) (ht : ((pc + 1 : Nat) : Int) + off = (tgt : Int)) (h1 : a < b → z_R M tgt lo sk w μ d Q) (h2 : b ≤ a → z_R M (pc + 1 + 3) lo sk w μ d Q) : z_R M pc lo ((1, b) :: (1, a) :: sk) w μ d Q := by
  intro p l e R s m args below meth c H locs cells slots D cy ad A ls hC hG hr hh hl ha hb hk
  obtain ⟨ha1, ha2, ha⟩ := ha
  have ha1 : z_J b := ha1
  have ha2 : z_J a := ha2
  refine W.lcmp hC.1 hC.2.1 hd0 ?_
  have hcmp : ∃ z : Int, lg_cmp (Int64.ofInt a) (Int64.ofInt b) = Int32.ofInt z ∧ z_I z ∧ ((z < 0 ↔ a < b) ∧ (z = 0 ↔ a = b) ∧ (0 < z ↔ b < a)) := z_lcmpv ha2 ha1
  obtain ⟨z, hz, hzI, hz1, hz2, hz3⟩ := hcmp
  rw [hz]
  exact z_if_lt (lo := lo) (sk := sk) hd ht (fun q => h1 (by omega)) (fun q => h2 (by omega)) p l e R s m args below meth c H locs cells slots D cy ad A ls hC hG hr hh hl ⟨hzI, ha⟩ hb hk
theorem z_lcmp_ge {off : Int} {tgt : Nat} (hd0 : decode M.2.1 pc = .ok (.lcmp, 1)) (hd : decode M.2.1 (pc + 1) = .ok (.ifCond .ge off, 3)) (ht : ((pc + 1 : Nat) : Int) + off = (tgt : Int)) (h1 : b ≤ a → z_R M tgt lo sk w μ d Q) (h2 : a < b → z_R M (pc + 1 + 3) lo sk w μ d Q) : z_R M pc lo ((1, b) :: (1, a) :: sk) w μ d Q := by
  intro p l e R s m args below meth c H locs cells slots D cy ad A ls hC hG hr hh hl ha hb hk
  obtain ⟨ha1, ha2, ha⟩ := ha
  have ha1 : z_J b := ha1
  have ha2 : z_J a := ha2
  refine W.lcmp hC.1 hC.2.1 hd0 ?_
  have hcmp : ∃ z : Int, lg_cmp (Int64.ofInt a) (Int64.ofInt b) = Int32.ofInt z ∧ z_I z ∧ ((z < 0 ↔ a < b) ∧ (z = 0 ↔ a = b) ∧ (0 < z ↔ b < a)) := z_lcmpv ha2 ha1
  obtain ⟨z, hz, hzI, hz1, hz2, hz3⟩ := hcmp
  rw [hz]
  exact z_if_ge (lo := lo) (sk := sk) hd ht (fun q => h1 (by omega)) (fun q => h2 (by omega)) p l e R s m args below meth c H locs cells slots D cy ad A ls hC hG hr hh hl ⟨hzI, ha⟩ hb hk
theorem z_lcmp_gt {off : Int} {tgt : Nat} (hd0 : decode M.2.1 pc = .ok (.lcmp, 1)) (hd : decode M.2.1 (pc + 1) = .ok (.ifCond .gt off, 3)) (ht : ((pc + 1 : Nat) : Int) + off = (tgt : Int)) (h1 : b < a → z_R M tgt lo sk w μ d Q) (h2 : a ≤ b → z_R M (pc + 1 + 3) lo sk w μ d Q) : z_R M pc lo ((1, b) :: (1, a) :: sk) w μ d Q := by
  intro p l e R s m args below meth c H locs cells slots D cy ad A ls hC hG hr hh hl ha hb hk
  obtain ⟨ha1, ha2, ha⟩ := ha
  have ha1 : z_J b := ha1
  have ha2 : z_J a := ha2
  refine W.lcmp hC.1 hC.2.1 hd0 ?_
  have hcmp : ∃ z : Int, lg_cmp (Int64.ofInt a) (Int64.ofInt b) = Int32.ofInt z ∧ z_I z ∧ ((z < 0 ↔ a < b) ∧ (z = 0 ↔ a = b) ∧ (0 < z ↔ b < a)) := z_lcmpv ha2 ha1
  obtain ⟨z, hz, hzI, hz1, hz2, hz3⟩ := hcmp
  rw [hz]
  exact z_if_gt (lo := lo) (sk := sk) hd ht (fun q => h1 (by omega)) (fun q => h2 (by omega)) p l e R s m args below meth c H locs cells slots D cy ad A ls hC hG hr hh hl ⟨hzI, ha⟩ hb hk
theorem z_lcmp_le {off : Int} {tgt : Nat} (hd0 : decode M.2.1 pc = .ok (.lcmp, 1)) (hd : decode M.2.1 (pc + 1) = .ok (.ifCond .le off, 3)) (ht : ((pc + 1 : Nat) : Int) + off = (tgt : Int)) (h1 : a ≤ b → z_R M tgt lo sk w μ d Q) (h2 : b < a → z_R M (pc + 1 + 3) lo sk w μ d Q) : z_R M pc lo ((1, b) :: (1, a) :: sk) w μ d Q := by
  intro p l e R s m args below meth c H locs cells slots D cy ad A ls hC hG hr hh hl ha hb hk
  obtain ⟨ha1, ha2, ha⟩ := ha
  have ha1 : z_J b := ha1
  have ha2 : z_J a := ha2
  refine W.lcmp hC.1 hC.2.1 hd0 ?_
  have hcmp : ∃ z : Int, lg_cmp (Int64.ofInt a) (Int64.ofInt b) = Int32.ofInt z ∧ z_I z ∧ ((z < 0 ↔ a < b) ∧ (z = 0 ↔ a = b) ∧ (0 < z ↔ b < a)) := z_lcmpv ha2 ha1
  obtain ⟨z, hz, hzI, hz1, hz2, hz3⟩ := hcmp
  rw [hz]
  exact z_if_le (lo := lo) (sk := sk) hd ht (fun q => h1 (by omega)) (fun q => h2 (by omega)) p l e R s m args below meth c H locs cells slots D cy ad A ls hC hG hr hh hl ⟨hzI, ha⟩ hb hk
theorem z_table {dflt lo1 hi : Int} {offs : Array Int} {len : Nat} (hd : decode M.2.1 pc = .ok (.tableswitch dflt lo1 hi offs, len)) (tg : List Nat) (td : Nat) (h1 : tg.length = (hi - lo1 + 1).toNat) (h2 : (List.range tg.length).all (fun i => decide ((offs[i]?).map (fun o => (pc : Int) + o) = some ((tg.getD i 0 : Nat) : Int))) = true) (h3 : (pc : Int) + dflt = (td : Int))
    (hin : ∀ i : Nat, i < tg.length → a = lo1 + i → z_R M (tg.getD i 0) lo sk w μ d Q) (hout : a < lo1 ∨ hi < a → z_R M td lo sk w μ d Q) : z_R M pc lo ((0, a) :: sk) w μ d Q := by
  intro p l e R s m args below meth c H locs cells slots D cy ad A ls hC hG hr hh hl ha hb hk
  obtain ⟨ha1, ha⟩ := ha
  have ez : (Int32.ofInt a).toInt = a := z_i32 ha1
  by_cases hc : a < lo1 ∨ hi < a
  · exact lv_tableOut hC.1 hC.2.1 hd (by rw [ez]; exact hc) h3 (hout hc p l e R s m args below meth c H locs cells slots D cy ad A ls hC hG hr hh hl ha hb hk)
  · have hi1 : (a - lo1).toNat < tg.length := by omega
    have h4 := List.all_eq_true.mp h2 _ (List.mem_range.mpr hi1)
    have h4 := of_decide_eq_true h4
    cases ho : offs[(a - lo1).toNat]? with
    | none => rw [ho] at h4; cases h4
    | some o =>
      rw [ho] at h4
      have h4 := Option.some.inj h4
      refine lv_tableIn hC.1 hC.2.1 hd (by rw [ez]; omega) (by rw [ez]; omega) (by rw [ez]; exact ho) h4 (hin _ hi1 (by omega) p l e R s m args below meth c H locs cells slots D cy ad A ls hC hG hr hh hl ha hb hk)
theorem z_lookup {dflt : Int} {ps : Array (Int × Int)} {len : Nat} (hd : decode M.2.1 pc = .ok (.lookupswitch dflt ps, len)) (hp : (ps.toList.zip (ps.toList.drop 1)).all (fun (a, next) => a.1 < next.1) = true) (td : Nat) (tg : Int → Nat)
    (ht : ∀ x : Int, (pc : Int) + Op.lookupswitch.offset ps.toList dflt x = (tg x : Int))
    (h : z_R M (tg a) lo sk w μ d Q) : z_R M pc lo ((0, a) :: sk) w μ d Q := by
  intro p l e R s m args below meth c H locs cells slots D cy ad A ls hC hG hr hh hl ha hb hk
  obtain ⟨ha1, ha⟩ := ha
  have e1 : (Int32.ofInt a).toInt = a := z_i32 ha1
  exact lv_lookup hC.1 hC.2.1 hd hp (off := Op.lookupswitch.offset ps.toList dflt a) (by rw [e1]) (ht a) (h p l e R s m args below meth c H locs cells slots D cy ad A ls hC hG hr hh hl ha hb hk)
end ZF

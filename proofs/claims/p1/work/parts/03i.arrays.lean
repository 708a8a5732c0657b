theorem z_isPa {o i : Int} (h : z_tg o i ≠ 2) : z_isP o i = false := by
  unfold z_isP
  rw [show decide (z_tg o i = 2) = false from decide_eq_false h]
  rfl
theorem z_clampc {i : Int} (h : z_I i) (h0 : 0 ≤ i) : (((Int32.ofInt i).toNatClampNeg : Nat) : Int) = i := by
  rw [z_clamp h]
  omega
theorem z_narb {x : Int} (h : -128 ≤ x ∧ x ≤ 127) : vp_nar .byte (Int32.ofInt x) = Int32.ofInt x := by
  rw [vp_nar_byte, z_i2b ⟨by omega, by omega⟩, Int.bmod_eq_of_le (by omega) (by omega)]
theorem z_narz {x : Int} (h : 0 ≤ x ∧ x ≤ 1) : vp_nar .boolean (Int32.ofInt x) = Int32.ofInt x := by
  rcases (show x = 0 ∨ x = 1 by omega) with rfl | rfl <;> rfl
section ZA
variable {M : z_M} {pc : Nat} {lo lo' : List (Option z_V)} {sk : List z_V} {w : z_W} {μ : z_Mem} {d : Nat} {Q : Option z_V → z_Mem → Prop} {a b x y o i : Int}
theorem z_iald (hd : decode M.2.1 pc = .ok (.iaload, 1)) (ho : z_is w o 14) (h0 : 0 ≤ i) (h1 : i < z_ln o) (h : z_R M (pc + 1) lo ((0, μ o i) :: sk) w μ d Q) : z_R M pc lo ((0, i) :: (2, o) :: sk) w μ d Q := by
  intro p l e R s m args below meth c H locs cells slots D cy ad A ls hC hG hr hh hl ha hb hk
  obtain ⟨ho1, ho2, ho3⟩ := ho
  have he := z_at (cy := cy) (ad := ad) (μ := μ) ho1 ho2
  rw [ho3, z_ent_a (by decide)] at he
  have hi : z_I i := ha.1
  have hrv : z_rng 0 (μ o i) w.1 := by
    have := hk.1 o i ho1 ho2
    rw [show z_tg o i = 0 by unfold z_tg; rw [ho3]; rfl] at this
    exact this
  have h2 := h p l e R s m args below meth c H locs cells slots D cy ad A ls hC hG hr hh hl ⟨z_rng_rv (t := 0) hrv, ha.2.2⟩ hb hk
  rw [List.map_cons, List.map_cons, z_rfp (x := o) (by omega)]
  refine va_iald hC.1 hC.2.1 hG.2.2.1 hh.1 (o.toNat - 1) 1 he rfl (z_in hi h0 (by omega)) hd ?_
  have e1 := z_clampc hi h0
  simp only [e1]
  exact h2
theorem z_bald (hd : decode M.2.1 pc = .ok (.baload, 1)) (ho : z_is w o 13) (h0 : 0 ≤ i) (h1 : i < z_ln o) (h : z_R M (pc + 1) lo ((0, μ o i) :: sk) w μ d Q) : z_R M pc lo ((0, i) :: (2, o) :: sk) w μ d Q := by
  intro p l e R s m args below meth c H locs cells slots D cy ad A ls hC hG hr hh hl ha hb hk
  obtain ⟨ho1, ho2, ho3⟩ := ho
  have he := z_at (cy := cy) (ad := ad) (μ := μ) ho1 ho2
  rw [ho3, z_ent_a (by decide)] at he
  have hi : z_I i := ha.1
  have hrv : z_rng 4 (μ o i) w.1 := by
    have := hk.1 o i ho1 ho2
    rw [show z_tg o i = 4 by unfold z_tg; rw [ho3]; rfl] at this
    exact this
  have h2 := h p l e R s m args below meth c H locs cells slots D cy ad A ls hC hG hr hh hl ⟨z_rng_rv (t := 4) hrv, ha.2.2⟩ hb hk
  rw [List.map_cons, List.map_cons, z_rfp (x := o) (by omega)]
  refine va_bald hC.1 hC.2.1 hG.2.2.1 hh.1 (o.toNat - 1) 0 he rfl (z_in hi h0 (by omega)) hd ?_
  have e1 := z_clampc hi h0
  simp only [e1]
  exact h2
theorem z_zald (hd : decode M.2.1 pc = .ok (.baload, 1)) (ho : z_is w o 16) (h0 : 0 ≤ i) (h1 : i < z_ln o) (h : z_R M (pc + 1) lo ((0, μ o i) :: sk) w μ d Q) : z_R M pc lo ((0, i) :: (2, o) :: sk) w μ d Q := by
  intro p l e R s m args below meth c H locs cells slots D cy ad A ls hC hG hr hh hl ha hb hk
  obtain ⟨ho1, ho2, ho3⟩ := ho
  have he := z_at (cy := cy) (ad := ad) (μ := μ) ho1 ho2
  rw [ho3, z_ent_a (by decide)] at he
  have hi : z_I i := ha.1
  have hrv : z_rng 3 (μ o i) w.1 := by
    have := hk.1 o i ho1 ho2
    rw [show z_tg o i = 3 by unfold z_tg; rw [ho3]; rfl] at this
    exact this
  have h2 := h p l e R s m args below meth c H locs cells slots D cy ad A ls hC hG hr hh hl ⟨z_rng_rv (t := 3) hrv, ha.2.2⟩ hb hk
  rw [List.map_cons, List.map_cons, z_rfp (x := o) (by omega)]
  refine va_zald hC.1 hC.2.1 hG.2.2.1 hh.1 (o.toNat - 1) 3 he rfl (z_in hi h0 (by omega)) hd ?_
  have e1 := z_clampc hi h0
  simp only [e1]
  exact h2
theorem z_lald (hd : decode M.2.1 pc = .ok (.laload, 1)) (ho : z_is w o 15) (h0 : 0 ≤ i) (h1 : i < z_ln o) (h : z_R M (pc + 1) lo ((1, μ o i) :: sk) w μ d Q) : z_R M pc lo ((0, i) :: (2, o) :: sk) w μ d Q := by
  intro p l e R s m args below meth c H locs cells slots D cy ad A ls hC hG hr hh hl ha hb hk
  obtain ⟨ho1, ho2, ho3⟩ := ho
  have he := z_at (cy := cy) (ad := ad) (μ := μ) ho1 ho2
  rw [ho3, z_ent_a (by decide)] at he
  have hi : z_I i := ha.1
  have hrv : z_rng 1 (μ o i) w.1 := by
    have := hk.1 o i ho1 ho2
    rw [show z_tg o i = 1 by unfold z_tg; rw [ho3]; rfl] at this
    exact this
  have h2 := h p l e R s m args below meth c H locs cells slots D cy ad A ls hC hG hr hh hl ⟨z_rng_rv (t := 1) hrv, ha.2.2⟩ hb hk
  rw [List.map_cons, List.map_cons, z_rfp (x := o) (by omega)]
  refine va_lald hC.1 hC.2.1 hG.2.2.1 hh.1 (o.toNat - 1) 2 he rfl (z_in hi h0 (by omega)) hd ?_
  have e1 := z_clampc hi h0
  simp only [e1]
  exact h2
theorem z_iast (hd : decode M.2.1 pc = .ok (.iastore, 1)) (ho : z_is w o 14) (h0 : 0 ≤ i) (h1 : i < z_ln o) (h : z_R M (pc + 1) lo sk w (z_st μ o i x) d Q) : z_R M pc lo ((0, x) :: (0, i) :: (2, o) :: sk) w μ d Q := by
  intro p l e R s m args below meth c H locs cells slots D cy ad A ls hC hG hr hh hl ha hb hk
  obtain ⟨ho1, ho2, ho3⟩ := ho
  have he := z_at (cy := cy) (ad := ad) (μ := μ) ho1 ho2
  rw [ho3, z_ent_a (by decide)] at he
  have hi : z_I i := ha.2.1
  have htg : z_tg o i = 0 := by unfold z_tg; rw [ho3]; rfl
  rw [List.map_cons, List.map_cons, List.map_cons, z_rfp (x := o) (by omega)]
  refine va_iast hC.1 hC.2.1 hG.2.2.1 hh.1 hh.2.1 hh.2.2.1 (o.toNat - 1) 1 he rfl (z_in hi h0 (by omega)) hd (fun H1 locs1 hP hD hS => ?_)
  have e0 := z_clamp hi
  have hset := z_set (cy := cy) (ad := ad) (μ := μ) (N := w.1) (o := o) (i := i) (v := x) ho1 (e := .inl (cy 14, (z_ln o).toNat, .inl (upd (fun j => Int32.ofInt (μ o j)) i.toNat (Int32.ofInt x)))) (by
    rw [ho3, z_ent_a (by decide)]
    show (_ : va_E) = Sum.inl (cy 14, (z_ln o).toNat, .inl (fun j : Nat => Int32.ofInt (z_st μ o i x o j)))
    congr 4
    funext j
    unfold upd z_st
    by_cases hj : j = i.toNat
    · rw [if_pos hj, if_pos ⟨rfl, by omega⟩]
    · rw [if_neg hj, if_neg (fun q => hj (by omega))])
  rw [e0] at hP hD
  rw [hset] at hP hD
  exact h p l e R s m args below meth c H1 locs1 cells slots D cy ad A ls hC hG hr ⟨hP, hD, hS, hh.2.2.2⟩ hl ha.2.2.2 hb (z_ok_st hk (by rw [htg]; exact ha.1) (fun _ => z_isPa (by rw [htg]; decide)))
theorem z_bast (hd : decode M.2.1 pc = .ok (.bastore, 1)) (ho : z_is w o 13) (h0 : 0 ≤ i) (h1 : i < z_ln o) (hx : -128 ≤ x ∧ x ≤ 127) (h : z_R M (pc + 1) lo sk w (z_st μ o i x) d Q) : z_R M pc lo ((0, x) :: (0, i) :: (2, o) :: sk) w μ d Q := by
  intro p l e R s m args below meth c H locs cells slots D cy ad A ls hC hG hr hh hl ha hb hk
  obtain ⟨ho1, ho2, ho3⟩ := ho
  have he := z_at (cy := cy) (ad := ad) (μ := μ) ho1 ho2
  rw [ho3, z_ent_a (by decide)] at he
  have hi : z_I i := ha.2.1
  have htg : z_tg o i = 4 := by unfold z_tg; rw [ho3]; rfl
  rw [List.map_cons, List.map_cons, List.map_cons, z_rfp (x := o) (by omega)]
  refine va_bast hC.1 hC.2.1 hG.2.2.1 hh.1 hh.2.1 hh.2.2.1 (o.toNat - 1) 0 he rfl (z_in hi h0 (by omega)) hd (fun H1 locs1 hP hD hS => ?_)
  have e0 := z_clamp hi
  have hset := z_set (cy := cy) (ad := ad) (μ := μ) (N := w.1) (o := o) (i := i) (v := x) ho1 (e := .inl (cy 13, (z_ln o).toNat, .inl (upd (fun j => Int32.ofInt (μ o j)) i.toNat (Int32.ofInt x)))) (by
    rw [ho3, z_ent_a (by decide)]
    show (_ : va_E) = Sum.inl (cy 13, (z_ln o).toNat, .inl (fun j : Nat => Int32.ofInt (z_st μ o i x o j)))
    congr 4
    funext j
    unfold upd z_st
    by_cases hj : j = i.toNat
    · rw [if_pos hj, if_pos ⟨rfl, by omega⟩]
    · rw [if_neg hj, if_neg (fun q => hj (by omega))])
  rw [e0, z_narb hx] at hP hD
  rw [hset] at hP hD
  exact h p l e R s m args below meth c H1 locs1 cells slots D cy ad A ls hC hG hr ⟨hP, hD, hS, hh.2.2.2⟩ hl ha.2.2.2 hb (z_ok_st hk (by rw [htg]; exact hx) (fun _ => z_isPa (by rw [htg]; decide)))
theorem z_zast (hd : decode M.2.1 pc = .ok (.bastore, 1)) (ho : z_is w o 16) (h0 : 0 ≤ i) (h1 : i < z_ln o) (hx : 0 ≤ x ∧ x ≤ 1) (h : z_R M (pc + 1) lo sk w (z_st μ o i x) d Q) : z_R M pc lo ((0, x) :: (0, i) :: (2, o) :: sk) w μ d Q := by
  intro p l e R s m args below meth c H locs cells slots D cy ad A ls hC hG hr hh hl ha hb hk
  obtain ⟨ho1, ho2, ho3⟩ := ho
  have he := z_at (cy := cy) (ad := ad) (μ := μ) ho1 ho2
  rw [ho3, z_ent_a (by decide)] at he
  have hi : z_I i := ha.2.1
  have htg : z_tg o i = 3 := by unfold z_tg; rw [ho3]; rfl
  rw [List.map_cons, List.map_cons, List.map_cons, z_rfp (x := o) (by omega)]
  refine va_zast hC.1 hC.2.1 hG.2.2.1 hh.1 hh.2.1 hh.2.2.1 (o.toNat - 1) 3 he rfl (z_in hi h0 (by omega)) hd (fun H1 locs1 hP hD hS => ?_)
  have e0 := z_clamp hi
  have hset := z_set (cy := cy) (ad := ad) (μ := μ) (N := w.1) (o := o) (i := i) (v := x) ho1 (e := .inl (cy 16, (z_ln o).toNat, .inl (upd (fun j => Int32.ofInt (μ o j)) i.toNat (Int32.ofInt x)))) (by
    rw [ho3, z_ent_a (by decide)]
    show (_ : va_E) = Sum.inl (cy 16, (z_ln o).toNat, .inl (fun j : Nat => Int32.ofInt (z_st μ o i x o j)))
    congr 4
    funext j
    unfold upd z_st
    by_cases hj : j = i.toNat
    · rw [if_pos hj, if_pos ⟨rfl, by omega⟩]
    · rw [if_neg hj, if_neg (fun q => hj (by omega))])
  rw [e0, z_narz hx] at hP hD
  rw [hset] at hP hD
  exact h p l e R s m args below meth c H1 locs1 cells slots D cy ad A ls hC hG hr ⟨hP, hD, hS, hh.2.2.2⟩ hl ha.2.2.2 hb (z_ok_st hk (by rw [htg]; exact hx) (fun _ => z_isPa (by rw [htg]; decide)))
theorem z_last (hd : decode M.2.1 pc = .ok (.lastore, 1)) (ho : z_is w o 15) (h0 : 0 ≤ i) (h1 : i < z_ln o) (h : z_R M (pc + 1) lo sk w (z_st μ o i x) d Q) : z_R M pc lo ((1, x) :: (0, i) :: (2, o) :: sk) w μ d Q := by
  intro p l e R s m args below meth c H locs cells slots D cy ad A ls hC hG hr hh hl ha hb hk
  obtain ⟨ho1, ho2, ho3⟩ := ho
  have he := z_at (cy := cy) (ad := ad) (μ := μ) ho1 ho2
  rw [ho3, z_ent_a (by decide)] at he
  have hi : z_I i := ha.2.1
  have htg : z_tg o i = 1 := by unfold z_tg; rw [ho3]; rfl
  rw [List.map_cons, List.map_cons, List.map_cons, z_rfp (x := o) (by omega)]
  refine va_last hC.1 hC.2.1 hG.2.2.1 hh.1 hh.2.1 hh.2.2.1 (o.toNat - 1) 2 he rfl (z_in hi h0 (by omega)) hd (fun H1 locs1 hP hD hS => ?_)
  have e0 := z_clamp hi
  have hset := z_set (cy := cy) (ad := ad) (μ := μ) (N := w.1) (o := o) (i := i) (v := x) ho1 (e := .inl (cy 15, (z_ln o).toNat, .inr (.inl (vp_updL (fun j => Int64.ofInt (μ o j)) i.toNat (Int64.ofInt x))))) (by
    rw [ho3, z_ent_a (by decide)]
    show (_ : va_E) = Sum.inl (cy 15, (z_ln o).toNat, .inr (.inl (fun j : Nat => Int64.ofInt (z_st μ o i x o j))))
    congr 5
    funext j
    unfold vp_updL z_st
    by_cases hj : j = i.toNat
    · rw [if_pos hj, if_pos ⟨rfl, by omega⟩]
    · rw [if_neg hj, if_neg (fun q => hj (by omega))])
  rw [e0] at hP hD
  rw [hset] at hP hD
  exact h p l e R s m args below meth c H1 locs1 cells slots D cy ad A ls hC hG hr ⟨hP, hD, hS, hh.2.2.2⟩ hl ha.2.2.2 hb (z_ok_st hk (by rw [htg]; exact ha.1) (fun _ => z_isPa (by rw [htg]; decide)))
theorem z_aaldJ (hd : decode M.2.1 pc = .ok (.aaload, 1)) (ho : z_is w o 17) (h0 : 0 ≤ i) (h1 : i < z_ln o) (h : z_R M (pc + 1) lo ((2, μ o i) :: sk) w μ d Q) : z_R M pc lo ((0, i) :: (2, o) :: sk) w μ d Q := by
  intro p l e R s m args below meth c H locs cells slots D cy ad A ls hC hG hr hh hl ha hb hk
  obtain ⟨ho1, ho2, ho3⟩ := ho
  have he := z_at (cy := cy) (ad := ad) (μ := μ) ho1 ho2
  rw [ho3, z_ent_a (by decide)] at he
  have hi : z_I i := ha.1
  have hrv : z_rng 2 (μ o i) w.1 := by
    have := hk.1 o i ho1 ho2
    rw [show z_tg o i = 2 by unfold z_tg; rw [ho3]; rfl] at this
    exact this
  have h2 := h p l e R s m args below meth c H locs cells slots D cy ad A ls hC hG hr hh hl ⟨hrv.1, ha.2.2⟩ hb hk
  rw [List.map_cons, List.map_cons, z_rfp (x := o) (by omega)]
  have hin := z_in (n := (z_ln o).toNat) hi h0 (by omega)
  have hlt : (Int32.ofInt i).toNatClampNeg < (z_ln o).toNat := by rw [z_clamp hi]; omega
  have e1 := z_clampc hi h0
  refine W.aald (v := va_rf (z_rf ad (μ o (((Int32.ofInt i).toNatClampNeg : Nat) : Int)))) (ty := .object RX3) hC.1 hC.2.1 (hh.1 _ _ he) ((hG.2.2.1.2 4 (cy 17, .object RX3) rfl).1 (z_ln o).toNat (fun j => va_rf (z_rf ad (μ o j)))) rfl (fun q => by cases q) (by show ¬ (_ ∨ (arrV _ _ _).slots.size ≤ _); rw [arrV_size]; exact hin) (by show (arrV _ _ _).slots[_]? = _; rw [arrV_read _ _ hlt]) rfl rfl hd ?_
  rw [e1]
  exact h2
theorem z_aaldJp (v : Int) (hd : decode M.2.1 pc = .ok (.aaload, 1)) (ho : z_is w o 17) (h0 : 0 ≤ i) (h1 : i < z_ln o) (hw : w.2.2 = true) (hp : z_isP o i = true) (hv : z_P o i = v) (h : z_R M (pc + 1) lo ((2, v) :: sk) w μ d Q) : z_R M pc lo ((0, i) :: (2, o) :: sk) w μ d Q := by
  refine z_use fun _ _ hk => ?_
  refine z_aaldJ hd ho h0 h1 ?_
  rw [hk.2 hw o i hp, hv]
  exact h
theorem z_aaldS (hd : decode M.2.1 pc = .ok (.aaload, 1)) (ho : z_is w o 18) (h0 : 0 ≤ i) (h1 : i < z_ln o) (h : z_R M (pc + 1) lo ((2, μ o i) :: sk) w μ d Q) : z_R M pc lo ((0, i) :: (2, o) :: sk) w μ d Q := by
  intro p l e R s m args below meth c H locs cells slots D cy ad A ls hC hG hr hh hl ha hb hk
  obtain ⟨ho1, ho2, ho3⟩ := ho
  have he := z_at (cy := cy) (ad := ad) (μ := μ) ho1 ho2
  rw [ho3, z_ent_a (by decide)] at he
  have hi : z_I i := ha.1
  have hrv : z_rng 2 (μ o i) w.1 := by
    have := hk.1 o i ho1 ho2
    rw [show z_tg o i = 2 by unfold z_tg; rw [ho3]; rfl] at this
    exact this
  have h2 := h p l e R s m args below meth c H locs cells slots D cy ad A ls hC hG hr hh hl ⟨hrv.1, ha.2.2⟩ hb hk
  rw [List.map_cons, List.map_cons, z_rfp (x := o) (by omega)]
  have hin := z_in (n := (z_ln o).toNat) hi h0 (by omega)
  have hlt : (Int32.ofInt i).toNatClampNeg < (z_ln o).toNat := by rw [z_clamp hi]; omega
  have e1 := z_clampc hi h0
  refine W.aald (v := va_rf (z_rf ad (μ o (((Int32.ofInt i).toNatClampNeg : Nat) : Int)))) (ty := .object RX7) hC.1 hC.2.1 (hh.1 _ _ he) ((hG.2.2.1.2 5 (cy 18, .object RX7) rfl).1 (z_ln o).toNat (fun j => va_rf (z_rf ad (μ o j)))) rfl (fun q => by cases q) (by show ¬ (_ ∨ (arrV _ _ _).slots.size ≤ _); rw [arrV_size]; exact hin) (by show (arrV _ _ _).slots[_]? = _; rw [arrV_read _ _ hlt]) rfl rfl hd ?_
  rw [e1]
  exact h2
theorem z_aaldSp (v : Int) (hd : decode M.2.1 pc = .ok (.aaload, 1)) (ho : z_is w o 18) (h0 : 0 ≤ i) (h1 : i < z_ln o) (hw : w.2.2 = true) (hp : z_isP o i = true) (hv : z_P o i = v) (h : z_R M (pc + 1) lo ((2, v) :: sk) w μ d Q) : z_R M pc lo ((0, i) :: (2, o) :: sk) w μ d Q := by
  refine z_use fun _ _ hk => ?_
  refine z_aaldS hd ho h0 h1 ?_
  rw [hk.2 hw o i hp, hv]
  exact h
theorem z_aaldI (hd : decode M.2.1 pc = .ok (.aaload, 1)) (ho : z_is w o 19) (h0 : 0 ≤ i) (h1 : i < z_ln o) (h : z_R M (pc + 1) lo ((2, μ o i) :: sk) w μ d Q) : z_R M pc lo ((0, i) :: (2, o) :: sk) w μ d Q := by
  intro p l e R s m args below meth c H locs cells slots D cy ad A ls hC hG hr hh hl ha hb hk
  obtain ⟨ho1, ho2, ho3⟩ := ho
  have he := z_at (cy := cy) (ad := ad) (μ := μ) ho1 ho2
  rw [ho3, z_ent_a (by decide)] at he
  have hi : z_I i := ha.1
  have hrv : z_rng 2 (μ o i) w.1 := by
    have := hk.1 o i ho1 ho2
    rw [show z_tg o i = 2 by unfold z_tg; rw [ho3]; rfl] at this
    exact this
  have h2 := h p l e R s m args below meth c H locs cells slots D cy ad A ls hC hG hr hh hl ⟨hrv.1, ha.2.2⟩ hb hk
  rw [List.map_cons, List.map_cons, z_rfp (x := o) (by omega)]
  have hin := z_in (n := (z_ln o).toNat) hi h0 (by omega)
  have hlt : (Int32.ofInt i).toNatClampNeg < (z_ln o).toNat := by rw [z_clamp hi]; omega
  have e1 := z_clampc hi h0
  refine W.aald (v := va_rf (z_rf ad (μ o (((Int32.ofInt i).toNatClampNeg : Nat) : Int)))) (ty := .array .int) hC.1 hC.2.1 (hh.1 _ _ he) ((hG.2.2.1.2 6 (cy 19, .array .int) rfl).1 (z_ln o).toNat (fun j => va_rf (z_rf ad (μ o j)))) rfl (fun q => by cases q) (by show ¬ (_ ∨ (arrV _ _ _).slots.size ≤ _); rw [arrV_size]; exact hin) (by show (arrV _ _ _).slots[_]? = _; rw [arrV_read _ _ hlt]) rfl rfl hd ?_
  rw [e1]
  exact h2
theorem z_aaldIp (v : Int) (hd : decode M.2.1 pc = .ok (.aaload, 1)) (ho : z_is w o 19) (h0 : 0 ≤ i) (h1 : i < z_ln o) (hw : w.2.2 = true) (hp : z_isP o i = true) (hv : z_P o i = v) (h : z_R M (pc + 1) lo ((2, v) :: sk) w μ d Q) : z_R M pc lo ((0, i) :: (2, o) :: sk) w μ d Q := by
  refine z_use fun _ _ hk => ?_
  refine z_aaldI hd ho h0 h1 ?_
  rw [hk.2 hw o i hp, hv]
  exact h
theorem z_alen {k t0 : Nat} {ty : FieldType} (hd : decode M.2.1 pc = .ok (.arraylength, 1)) (ho : z_is w o k) (hkk : ¬ k < 13) (ht : ∀ cy, (z_tys cy)[t0]? = some (cy k, ty)) (hn : z_I (z_ln o)) (h : z_R M (pc + 1) lo ((0, z_ln o) :: sk) w μ d Q) : z_R M pc lo ((2, o) :: sk) w μ d Q := by
  intro p l e R s m args below meth c H locs cells slots D cy ad A ls hC hG hr hh hl ha hb hk
  obtain ⟨ho1, ho2, ho3⟩ := ho
  have he := z_at (cy := cy) (ad := ad) (μ := μ) ho1 ho2
  rw [ho3, z_ent_a hkk] at he
  rw [List.map_cons, z_rfp (x := o) (by omega)]
  have hn0 : 0 ≤ z_ln o := by unfold z_ln; split <;> omega
  refine va_alen hC.1 hC.2.1 hG.2.2.1 hh.1 (o.toNat - 1) t0 he (ht cy) (v := Int32.ofInt (z_ln o)) ?_ hd (h p l e R s m args below meth c H locs cells slots D cy ad A ls hC hG hr hh hl ⟨hn, ha.2⟩ hb hk)
  show Int32.ofNat (z_ln o).toNat = _
  rw [← Int32.ofInt_eq_ofNat, Int.toNat_of_nonneg hn0]
/-- a static table, and what it holds -/
theorem z_gets {idx j : Nat} {q : String × String × List Int} (hd : decode M.2.1 pc = .ok (.getstatic idx, 3)) (hq : z_stat[j]? = some q) (hw : Cond.fieldLink M.1.cls idx q.1 q.2.1 "[I" ∈ z_gw) (h : z_R M (pc + 3) lo ((2, ((1001 + j : Nat) : Int)) :: sk) w μ d Q) : z_R M pc lo sk w μ d Q := by
  intro p l e R s m args below meth c H locs cells slots D cy ad A ls hC hG hr hh hl ha hb hk
  have h2 := h p l e R s m args below meth c H locs cells slots D cy ad A ls hC hG hr hh hl ⟨by show (0 : Int) ≤ _; omega, ha⟩ hb hk
  rw [List.map_cons, z_rfp (by omega), Int.toNat_natCast] at h2
  exact va_gets hC.1 hC.2.1 (hG.2.2.2 j q hq).1 hh.2.2.1 hC.2.2.2.2.1 (hG.1 _ hw) (fun _ z => z) hd h2
theorem z_getsN {idx j : Nat} {host : String} {q : String × String × List Int} (hd : decode M.2.1 pc = .ok (.getstatic idx, 3)) (hq : z_stat[j]? = some q) (hw : Cond.fieldLinkNest M.1.cls idx q.1 q.2.1 "[I" host ∈ z_nw) (h : z_R M (pc + 3) lo ((2, ((1001 + j : Nat) : Int)) :: sk) w μ d Q) : z_R M pc lo sk w μ d Q := by
  intro p l e R s m args below meth c H locs cells slots D cy ad A ls hC hG hr hh hl ha hb hk
  have h2 := h p l e R s m args below meth c H locs cells slots D cy ad A ls hC hG hr hh hl ⟨by show (0 : Int) ≤ _; omega, ha⟩ hb hk
  rw [List.map_cons, z_rfp (by omega), Int.toNat_natCast] at h2
  exact va_getsN hC.1 hC.2.1 (hG.2.2.2 j q hq).1 hh.2.2.1 hC.2.2.2.2.1 (va_Nw.use rfl (hG.2.1 _ hw)) (fun _ z => z) hd h2
theorem z_sald {j : Nat} {q : String × String × List Int} (hd : decode M.2.1 pc = .ok (.iaload, 1)) (hq : z_stat[j]? = some q) (h0 : 0 ≤ i) (h1 : i < q.2.2.length) (hv : z_I (z_S j i)) (h : z_R M (pc + 1) lo ((0, z_S j i) :: sk) w μ d Q) : z_R M pc lo ((0, i) :: (2, ((1001 + j : Nat) : Int)) :: sk) w μ d Q := by
  intro p l e R s m args below meth c H locs cells slots D cy ad A ls hC hG hr hh hl ha hb hk
  have hi : z_I i := ha.1
  have h2 := h p l e R s m args below meth c H locs cells slots D cy ad A ls hC hG hr hh hl ⟨hv, ha.2.2⟩ hb hk
  rw [List.map_cons, List.map_cons, z_rfp (x := ((1001 + j : Nat) : Int)) (by omega), Int.toNat_natCast]
  refine va_ti hC.1 hC.2.1 (hG.2.2.2 j q hq).2 hh.2.2.1 (z_in hi h0 h1) (v := .int (Int32.ofInt (z_S j i))) ?_ hd h2
  show Value.int (Int32.ofInt (q.2.2.getD (Int32.ofInt i).toNatClampNeg 0)) = _
  rw [z_clamp hi]
  unfold z_S
  rw [List.getD_eq_getElem?_getD (l := z_stat), hq]
  rfl
end ZA

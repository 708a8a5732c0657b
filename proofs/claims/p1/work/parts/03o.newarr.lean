section ZB
variable {M : z_M} {pc pc1 : Nat} {lo lo' : List (Option z_V)} {sk sk1 : List z_V} {w : z_W} {μ : z_Mem} {d N N1 M1 : Nat} {Q : Option z_V → z_Mem → Prop} {a b x y o i n v : Int}
variable {p : Program} {l : Launch} {e : Env} {R : Room} {s : State} {m : MethodId} {args : Array Value} {below : List Frame} {meth : Method} {c : Code} {H : Heap} {locs : List Loc} {cells slots : Nat}
/-- behind the making of one array -/
theorem z_newarr {D : va_G} {cy : Nat → ClassId} {ad : Nat → Nat} {A : Nat → Prop} {ls : Array Slot} {k : Nat} {a1 : Nat} {H1 : Heap} {locs1 : List Loc} (hk13 : ¬ k < 13) (hC : z_C M p s m meth c) (hG : z_G D cy ad A s args) (hr : z_rm (N, M1, false) d R cells slots) (hh : z_ho D cy ad A (N, M1, false) μ s H locs) (hl : z_lo ad M.2.2.1 ls lo) (hb : z_allo lo) (ha : z_all sk) (hk : z_ok μ (N, M1, false))
    (hsh : z_sh[N]? = some (k, n.toNat)) (hN : N + 1 ≤ M1) (hfl : ∀ (i : Nat) (v : z_V), lo[i]? = some (some v) → z_fitv N v) (hfs : ∀ v ∈ sk, z_fitv N v) (hz : ∀ i, μ ((N : Int) + 1) i = 0)
    (hP : va_P D vwCl (z_ws cy ad μ N ++ [(a1, .inl (cy k, n.toNat, z_con ad μ ((N : Int) + 1) k))]) H1) (hD : va_D A (z_ws cy ad μ N ++ [(a1, .inl (cy k, n.toNat, z_con ad μ ((N : Int) + 1) k))])) (hS : va_S A s.heap H1 locs1)
    (h : z_R M pc1 lo ((2, (N : Int) + 1) :: sk) (N + 1, M1, false) μ d Q) :
    W p l e R s m args below meth c H1 locs1 (cells + 1) (slots + n.toNat) (MQ below (z_Q D cy ad A (N, M1, false) Q) args s (cells + (M1 - N)) (slots + z_sl N M1) A) (F0 m pc1 ls (.ref a1 :: sk.map (z_val ad))) := by
  have hsl := z_sl_one hsh
  have hM : M1 ≤ 1000 := hr.2.2.2.1
  have had : ∀ x : Nat, ¬ (N < x ∧ x ≤ N + 1) → va_up ad (N + 1) a1 x = ad x := fun x hx => if_neg (by omega)
  have hadN : va_up ad (N + 1) a1 (N + 1) = a1 := if_pos rfl
  have hcell : (a1, (Sum.inl (cy k, n.toNat, z_con ad μ ((N : Int) + 1) k) : va_E)) = z_cl cy (va_up ad (N + 1) a1) μ N := by
    unfold z_cl
    have e9 : z_sh.getD N (99, 0) = (k, n.toNat) := by rw [List.getD_eq_getElem?_getD, hsh, Option.getD_some]
    rw [hadN, e9, z_ent_ad (ad := ad) (fun i _ => Or.inl (hz i)), z_ent_a hk13]
  rw [hcell, z_ws_new hk (fun x hx => had x (by omega))] at hP hD
  have hall : z_all ((2, (N : Int) + 1) :: sk) := ⟨by show (0 : Int) ≤ _; omega, ha⟩
  have h9 := z_cont (l := l) (e := e) (below := below) (cells := cells) (slots := slots) h hC hG hr hl hb hall (by omega) hN hfl had ⟨hP, hD, hS, hh.2.2.2⟩ (z_ok_new hk (by omega) (fun o i g1 g2 => by rw [show o = (N : Int) + 1 by omega]; exact hz i))
  rw [show N + 1 - N = 1 by omega, hsl, List.map_cons, ← z_map_fit hfs had (by omega) ha, z_rfp (by omega), show ((N : Int) + 1).toNat = N + 1 by omega, hadN] at h9
  exact h9
theorem z_room1 (hr : z_rm (N, M1, false) d R cells slots) {k q : Nat} (hsh : z_sh[N]? = some (k, q)) (hN : N + 1 ≤ M1) : cells + 1 ≤ R.cells ∧ slots + q ≤ R.slots := by
  have hsl := z_sl_one hsh
  obtain ⟨a1, a2, a3, a4, a5, a6⟩ := hr
  simp only at a3 a4 a5 a6
  have := z_sl_add (show N ≤ N + 1 by omega) hN
  rw [hsl] at this
  omega
theorem z_newI (hd : decode M.2.1 pc = .ok (.newarray .int, 2)) (hac : Cond.arrayClass FieldType.int ∈ z_gw) (hsh : z_sh[N]? = some (14, n.toNat)) (h0 : 0 ≤ n) (hn : n ≤ 100000) (hN : N + 1 ≤ M1) (hfl : ∀ (i : Nat) (v : z_V), lo[i]? = some (some v) → z_fitv N v) (hfs : ∀ v ∈ sk, z_fitv N v) (hz : ∀ i, μ ((N : Int) + 1) i = 0)
    (h : z_R M (pc + 2) lo ((2, (N : Int) + 1) :: sk) (N + 1, M1, false) μ d Q) : z_R M pc lo ((0, n) :: sk) (N, M1, false) μ d Q := by
  intro p l e R s m args below meth c H locs cells slots D cy ad A ls hC hG hr hh hl ha hb hk
  have hcs := z_room1 hr hsh hN
  have hnI : z_I n := ha.1
  refine va_newa (atype := .int) (ty := .int) (a0 := (n.toNat, .inl (fun _ => 0))) hC.1 hC.2.1 (hG.1 _ hac) rfl hG.2.2.1 hh.1 hh.2.1 hh.2.2.1 hh.2.2.2 (fun cA => rfl) (fun q => by have := (z_lt32 hnI z_I0).mp q; omega) (z_clamp hnI) (by show n.toNat * 4 ≤ 536870912; omega) hcs.1 hcs.2 hd (fun a1 cA H1 hK hP hD hS => ?_)
  have hcA : cA = cy 14 := by
    have e1 : s.vm.findClass _ = some cA := (hK.2 7 (cA, .int) rfl).2
    have e2 : s.vm.findClass _ = some (cy 14) := (hG.2.2.1.2 1 (cy 14, .int) rfl).2
    exact Option.some.inj (e1.symm.trans e2)
  subst hcA
  have hcon : z_con ad μ ((N : Int) + 1) 14 = .inl (fun _ => 0) := by
    unfold z_con
    simp only [hz]
    rfl
  rw [← hcon] at hP hD
  exact z_newarr (k := 14) (by decide) hC hG hr hh hl hb ha.2 hk hsh hN hfl hfs hz hP hD hS h
theorem z_newJ (hd : decode M.2.1 pc = .ok (.newarray .long, 2)) (hac : Cond.arrayClass FieldType.long ∈ z_gw) (hsh : z_sh[N]? = some (15, n.toNat)) (h0 : 0 ≤ n) (hn : n ≤ 100000) (hN : N + 1 ≤ M1) (hfl : ∀ (i : Nat) (v : z_V), lo[i]? = some (some v) → z_fitv N v) (hfs : ∀ v ∈ sk, z_fitv N v) (hz : ∀ i, μ ((N : Int) + 1) i = 0)
    (h : z_R M (pc + 2) lo ((2, (N : Int) + 1) :: sk) (N + 1, M1, false) μ d Q) : z_R M pc lo ((0, n) :: sk) (N, M1, false) μ d Q := by
  intro p l e R s m args below meth c H locs cells slots D cy ad A ls hC hG hr hh hl ha hb hk
  have hcs := z_room1 hr hsh hN
  have hnI : z_I n := ha.1
  refine va_newa (atype := .long) (ty := .long) (a0 := (n.toNat, .inr (.inl (fun _ => 0)))) hC.1 hC.2.1 (hG.1 _ hac) rfl hG.2.2.1 hh.1 hh.2.1 hh.2.2.1 hh.2.2.2 (fun cA => rfl) (fun q => by have := (z_lt32 hnI z_I0).mp q; omega) (z_clamp hnI) (by show n.toNat * 8 ≤ 536870912; omega) hcs.1 hcs.2 hd (fun a1 cA H1 hK hP hD hS => ?_)
  have hcA : cA = cy 15 := by
    have e1 : s.vm.findClass _ = some cA := (hK.2 7 (cA, .long) rfl).2
    have e2 : s.vm.findClass _ = some (cy 15) := (hG.2.2.1.2 2 (cy 15, .long) rfl).2
    exact Option.some.inj (e1.symm.trans e2)
  subst hcA
  have hcon : z_con ad μ ((N : Int) + 1) 15 = .inr (.inl (fun _ => 0)) := by
    unfold z_con
    simp only [hz]
    rfl
  rw [← hcon] at hP hD
  exact z_newarr (k := 15) (by decide) hC hG hr hh hl hb ha.2 hk hsh hN hfl hfs hz hP hD hS h
theorem z_newB (hd : decode M.2.1 pc = .ok (.newarray .byte, 2)) (hac : Cond.arrayClass FieldType.byte ∈ z_gw) (hsh : z_sh[N]? = some (13, n.toNat)) (h0 : 0 ≤ n) (hn : n ≤ 100000) (hN : N + 1 ≤ M1) (hfl : ∀ (i : Nat) (v : z_V), lo[i]? = some (some v) → z_fitv N v) (hfs : ∀ v ∈ sk, z_fitv N v) (hz : ∀ i, μ ((N : Int) + 1) i = 0)
    (h : z_R M (pc + 2) lo ((2, (N : Int) + 1) :: sk) (N + 1, M1, false) μ d Q) : z_R M pc lo ((0, n) :: sk) (N, M1, false) μ d Q := by
  intro p l e R s m args below meth c H locs cells slots D cy ad A ls hC hG hr hh hl ha hb hk
  have hcs := z_room1 hr hsh hN
  have hnI : z_I n := ha.1
  refine va_newa (atype := .byte) (ty := .byte) (a0 := (n.toNat, .inl (fun _ => 0))) hC.1 hC.2.1 (hG.1 _ hac) rfl hG.2.2.1 hh.1 hh.2.1 hh.2.2.1 hh.2.2.2 (fun cA => rfl) (fun q => by have := (z_lt32 hnI z_I0).mp q; omega) (z_clamp hnI) (by show n.toNat * 1 ≤ 536870912; omega) hcs.1 hcs.2 hd (fun a1 cA H1 hK hP hD hS => ?_)
  have hcA : cA = cy 13 := by
    have e1 : s.vm.findClass _ = some cA := (hK.2 7 (cA, .byte) rfl).2
    have e2 : s.vm.findClass _ = some (cy 13) := (hG.2.2.1.2 0 (cy 13, .byte) rfl).2
    exact Option.some.inj (e1.symm.trans e2)
  subst hcA
  have hcon : z_con ad μ ((N : Int) + 1) 13 = .inl (fun _ => 0) := by
    unfold z_con
    simp only [hz]
    rfl
  rw [← hcon] at hP hD
  exact z_newarr (k := 13) (by decide) hC hG hr hh hl hb ha.2 hk hsh hN hfl hfs hz hP hD hS h
theorem z_newZ (hd : decode M.2.1 pc = .ok (.newarray .boolean, 2)) (hac : Cond.arrayClass FieldType.boolean ∈ z_gw) (hsh : z_sh[N]? = some (16, n.toNat)) (h0 : 0 ≤ n) (hn : n ≤ 100000) (hN : N + 1 ≤ M1) (hfl : ∀ (i : Nat) (v : z_V), lo[i]? = some (some v) → z_fitv N v) (hfs : ∀ v ∈ sk, z_fitv N v) (hz : ∀ i, μ ((N : Int) + 1) i = 0)
    (h : z_R M (pc + 2) lo ((2, (N : Int) + 1) :: sk) (N + 1, M1, false) μ d Q) : z_R M pc lo ((0, n) :: sk) (N, M1, false) μ d Q := by
  intro p l e R s m args below meth c H locs cells slots D cy ad A ls hC hG hr hh hl ha hb hk
  have hcs := z_room1 hr hsh hN
  have hnI : z_I n := ha.1
  refine va_newa (atype := .boolean) (ty := .boolean) (a0 := (n.toNat, .inl (fun _ => 0))) hC.1 hC.2.1 (hG.1 _ hac) rfl hG.2.2.1 hh.1 hh.2.1 hh.2.2.1 hh.2.2.2 (fun cA => rfl) (fun q => by have := (z_lt32 hnI z_I0).mp q; omega) (z_clamp hnI) (by show n.toNat * 1 ≤ 536870912; omega) hcs.1 hcs.2 hd (fun a1 cA H1 hK hP hD hS => ?_)
  have hcA : cA = cy 16 := by
    have e1 : s.vm.findClass _ = some cA := (hK.2 7 (cA, .boolean) rfl).2
    have e2 : s.vm.findClass _ = some (cy 16) := (hG.2.2.1.2 3 (cy 16, .boolean) rfl).2
    exact Option.some.inj (e1.symm.trans e2)
  subst hcA
  have hcon : z_con ad μ ((N : Int) + 1) 16 = .inl (fun _ => 0) := by
    unfold z_con
    simp only [hz]
    rfl
  rw [← hcon] at hP hD
  exact z_newarr (k := 16) (by decide) hC hG hr hh hl hb ha.2 hk hsh hN hfl hfs hz hP hD hS h
theorem z_newqJ {idx : Nat} (hd : decode M.2.1 pc = .ok (.anewarray idx, 3)) (hcl : Cond.classLink M.1.cls idx RX3 ∈ z_gw) (hov : Cond.arrayOver (.object RX3) ∈ z_nw) (hsh : z_sh[N]? = some (17, n.toNat)) (h0 : 0 ≤ n) (hn : n ≤ 100000) (hN : N + 1 ≤ M1) (hfl : ∀ (i : Nat) (v : z_V), lo[i]? = some (some v) → z_fitv N v) (hfs : ∀ v ∈ sk, z_fitv N v) (hz : ∀ i, μ ((N : Int) + 1) i = 0)
    (h : z_R M (pc + 3) lo ((2, (N : Int) + 1) :: sk) (N + 1, M1, false) μ d Q) : z_R M pc lo ((0, n) :: sk) (N, M1, false) μ d Q := by
  intro p l e R s m args below meth c H locs cells slots D cy ad A ls hC hG hr hh hl ha hb hk
  have hcs := z_room1 hr hsh hN
  have hnI : z_I n := ha.1
  refine va_newq hC.1 hC.2.1 hC.2.2.2.2.1 (hG.1 _ hcl) (hG.2.1 _ hov) hG.2.2.1 hh.1 hh.2.1 hh.2.2.1 hh.2.2.2 (fun q => by have := (z_lt32 hnI z_I0).mp q; omega) (z_clamp hnI) (by omega) hcs.1 hcs.2 hd (fun a1 cA H1 hK hP hD hS => ?_)
  have hcA : cA = cy 17 := by
    obtain ⟨_, _, _, _, _, e1⟩ := (hK.2 7 (cA, .object RX3) rfl).2
    obtain ⟨_, _, _, _, _, e2⟩ := (hG.2.2.1.2 4 (cy 17, .object RX3) rfl).2
    exact Option.some.inj (e1.symm.trans e2)
  subst hcA
  have hcon : z_con ad μ ((N : Int) + 1) 17 = .inr (.inr (.inr (.inr (fun _ => none)))) := by
    unfold z_con
    simp only [hz]
    rfl
  rw [← hcon] at hP hD
  exact z_newarr (k := 17) (by decide) hC hG hr hh hl hb ha.2 hk hsh hN hfl hfs hz hP hD hS h
theorem z_newqJ_ast (hd : decode M.2.1 pc = .ok (.aastore, 1)) (ho : z_is w o 17) (h0 : 0 ≤ i) (h1 : i < z_ln o) (hv : z_is w v 3) (hw : w.2.2 = false) (h : z_R M (pc + 1) lo sk w (z_st μ o i v) d Q) : z_R M pc lo ((2, v) :: (0, i) :: (2, o) :: sk) w μ d Q := by
  intro p l e R s m args below meth c H locs cells slots D cy ad A ls hC hG hr hh hl ha hb hk
  obtain ⟨ho1, ho2, ho3⟩ := ho
  obtain ⟨hv1, hv2, hv3⟩ := hv
  have he := z_at (cy := cy) (ad := ad) (μ := μ) ho1 ho2
  rw [ho3, z_ent_a (by decide)] at he
  have he2 := z_at (cy := cy) (ad := ad) (μ := μ) hv1 hv2
  rw [hv3, z_ent_o (by decide)] at he2
  have hi : z_I i := ha.2.1
  have htg : z_tg o i = 2 := by unfold z_tg; rw [ho3]; rfl
  rw [List.map_cons, List.map_cons, List.map_cons, z_rfp (x := o) (by omega), z_rfp (x := v) (by omega)]
  refine va_astq hC.1 hC.2.1 hG.2.2.1 hh.1 hh.2.1 hh.2.2.1 (o.toNat - 1) 4 (v.toNat - 1) 3 (r := (RX3, TX3, z_nf 3)) he rfl he2 rfl (z_in hi h0 (by omega)) hd (fun H1 locs1 hP hD hS => ?_)
  have e0 := z_clamp hi
  have hset := z_set (cy := cy) (ad := ad) (μ := μ) (N := w.1) (o := o) (i := i) (v := v) ho1 (e := .inl (cy 17, (z_ln o).toNat, .inr (.inr (.inr (.inr (va_up (fun j => z_rf ad (μ o j)) i.toNat (some (ad v.toNat)))))))) (by
    rw [ho3, z_ent_a (by decide)]
    show (_ : va_E) = Sum.inl (cy 17, (z_ln o).toNat, .inr (.inr (.inr (.inr (fun j : Nat => z_rf ad (z_st μ o i v o j))))))
    congr 7
    funext j
    unfold va_up z_st
    by_cases hj : j = i.toNat
    · rw [if_pos hj, if_pos ⟨rfl, by omega⟩]
      unfold z_rf
      rw [if_neg (by omega)]
    · rw [if_neg hj, if_neg (fun q => hj (by omega))])
  rw [e0] at hP hD
  rw [hset] at hP hD
  exact h p l e R s m args below meth c H1 locs1 cells slots D cy ad A ls hC hG hr ⟨hP, hD, hS, hh.2.2.2⟩ hl ha.2.2.2 hb (z_ok_st hk (by rw [htg]; exact ⟨by omega, hv2⟩) (fun q => by rw [hw] at q; cases q))
theorem z_newqS {idx : Nat} (hd : decode M.2.1 pc = .ok (.anewarray idx, 3)) (hcl : Cond.classLink M.1.cls idx RX7 ∈ z_gw) (hov : Cond.arrayOver (.object RX7) ∈ z_nw) (hsh : z_sh[N]? = some (18, n.toNat)) (h0 : 0 ≤ n) (hn : n ≤ 100000) (hN : N + 1 ≤ M1) (hfl : ∀ (i : Nat) (v : z_V), lo[i]? = some (some v) → z_fitv N v) (hfs : ∀ v ∈ sk, z_fitv N v) (hz : ∀ i, μ ((N : Int) + 1) i = 0)
    (h : z_R M (pc + 3) lo ((2, (N : Int) + 1) :: sk) (N + 1, M1, false) μ d Q) : z_R M pc lo ((0, n) :: sk) (N, M1, false) μ d Q := by
  intro p l e R s m args below meth c H locs cells slots D cy ad A ls hC hG hr hh hl ha hb hk
  have hcs := z_room1 hr hsh hN
  have hnI : z_I n := ha.1
  refine va_newq hC.1 hC.2.1 hC.2.2.2.2.1 (hG.1 _ hcl) (hG.2.1 _ hov) hG.2.2.1 hh.1 hh.2.1 hh.2.2.1 hh.2.2.2 (fun q => by have := (z_lt32 hnI z_I0).mp q; omega) (z_clamp hnI) (by omega) hcs.1 hcs.2 hd (fun a1 cA H1 hK hP hD hS => ?_)
  have hcA : cA = cy 18 := by
    obtain ⟨_, _, _, _, _, e1⟩ := (hK.2 7 (cA, .object RX7) rfl).2
    obtain ⟨_, _, _, _, _, e2⟩ := (hG.2.2.1.2 5 (cy 18, .object RX7) rfl).2
    exact Option.some.inj (e1.symm.trans e2)
  subst hcA
  have hcon : z_con ad μ ((N : Int) + 1) 18 = .inr (.inr (.inr (.inr (fun _ => none)))) := by
    unfold z_con
    simp only [hz]
    rfl
  rw [← hcon] at hP hD
  exact z_newarr (k := 18) (by decide) hC hG hr hh hl hb ha.2 hk hsh hN hfl hfs hz hP hD hS h
theorem z_newqS_ast (hd : decode M.2.1 pc = .ok (.aastore, 1)) (ho : z_is w o 18) (h0 : 0 ≤ i) (h1 : i < z_ln o) (hv : z_is w v 7) (hw : w.2.2 = false) (h : z_R M (pc + 1) lo sk w (z_st μ o i v) d Q) : z_R M pc lo ((2, v) :: (0, i) :: (2, o) :: sk) w μ d Q := by
  intro p l e R s m args below meth c H locs cells slots D cy ad A ls hC hG hr hh hl ha hb hk
  obtain ⟨ho1, ho2, ho3⟩ := ho
  obtain ⟨hv1, hv2, hv3⟩ := hv
  have he := z_at (cy := cy) (ad := ad) (μ := μ) ho1 ho2
  rw [ho3, z_ent_a (by decide)] at he
  have he2 := z_at (cy := cy) (ad := ad) (μ := μ) hv1 hv2
  rw [hv3, z_ent_o (by decide)] at he2
  have hi : z_I i := ha.2.1
  have htg : z_tg o i = 2 := by unfold z_tg; rw [ho3]; rfl
  rw [List.map_cons, List.map_cons, List.map_cons, z_rfp (x := o) (by omega), z_rfp (x := v) (by omega)]
  refine va_astq hC.1 hC.2.1 hG.2.2.1 hh.1 hh.2.1 hh.2.2.1 (o.toNat - 1) 5 (v.toNat - 1) 7 (r := (RX7, TX7, z_nf 7)) he rfl he2 rfl (z_in hi h0 (by omega)) hd (fun H1 locs1 hP hD hS => ?_)
  have e0 := z_clamp hi
  have hset := z_set (cy := cy) (ad := ad) (μ := μ) (N := w.1) (o := o) (i := i) (v := v) ho1 (e := .inl (cy 18, (z_ln o).toNat, .inr (.inr (.inr (.inr (va_up (fun j => z_rf ad (μ o j)) i.toNat (some (ad v.toNat)))))))) (by
    rw [ho3, z_ent_a (by decide)]
    show (_ : va_E) = Sum.inl (cy 18, (z_ln o).toNat, .inr (.inr (.inr (.inr (fun j : Nat => z_rf ad (z_st μ o i v o j))))))
    congr 7
    funext j
    unfold va_up z_st
    by_cases hj : j = i.toNat
    · rw [if_pos hj, if_pos ⟨rfl, by omega⟩]
      unfold z_rf
      rw [if_neg (by omega)]
    · rw [if_neg hj, if_neg (fun q => hj (by omega))])
  rw [e0] at hP hD
  rw [hset] at hP hD
  exact h p l e R s m args below meth c H1 locs1 cells slots D cy ad A ls hC hG hr ⟨hP, hD, hS, hh.2.2.2⟩ hl ha.2.2.2 hb (z_ok_st hk (by rw [htg]; exact ⟨by omega, hv2⟩) (fun q => by rw [hw] at q; cases q))
end ZB

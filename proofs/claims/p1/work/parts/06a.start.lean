theorem z_arr_prim {s : State} {args : Array Value} {ty : FieldType} (h : (Cond.arrayClass ty).before args s = true) : ∃ c : ClassId, ArrOfT s c ty ∧ s.vm.findClass ("[" ++ ty.toString) = some c := by
  obtain ⟨c, k, comp, h1, h2, h3⟩ := Cond.arrayClass_spec h
  exact ⟨c, fun n z => ⟨fun k h => (by cases h), k, h2, comp, h3⟩, h1⟩
theorem z_arr_obj {s : State} {C : String} (h : va_AO C s) : ∃ c : ClassId, ArrOfT s c (.object C) ∧ va_RA s c (.object C) := by
  obtain ⟨comp, c, k, h1, h2, h3, h4, h5⟩ := Cond.arrayOver_spec h
  exact ⟨c, fun n z => ⟨fun k h => (by cases h), k, h3, comp, h4⟩, k, comp, h3, h4, h1, h5⟩
theorem z_arr_arr {s : State} (h : (Cond.arrayOver (.array .int)).before #[] s = true) : ∃ c : ClassId, ArrOfT s c (.array .int) ∧ s.vm.findClass ("[" ++ (FieldType.array .int).toString) = some c := by
  simp only [Cond.before, Cond.holds, Cond.value, beq_iff_eq, Option.bind_eq_some_iff, Option.map_eq_some_iff] at h
  obtain ⟨comp, hcomp, cA, hfind, kA, hkA, hkk⟩ := h
  obtain ⟨hlt, hp, -⟩ := Array.findIdx?_eq_some_iff_getElem.mp hfind
  have hkeq : s.vm.classes[cA] = kA := (Array.getElem?_eq_some_iff.mp hkA).2
  rw [hkeq] at hp
  cases hkind : kA.kind with
  | array component ty =>
    rw [hkind] at hkk hp
    simp at hkk hp
    exact ⟨cA, fun n z => ⟨fun k h => (by cases h), kA, hkA, component, by rw [hkind, hkk.1]⟩, hkk.2⟩
  | _ => rw [hkind] at hkk; simp at hkk
theorem z_start_K {s : State} {args : Array Value} (hts : ∀ w ∈ z_gw, w.before args s = true) (hnw : ∀ w ∈ z_nw, va_Nw w s) : ∃ (D : va_G) (cy : Nat → ClassId), va_K D vwCl (z_tys cy) s := by
  have hk : ∀ k : Nat, ∃ (cC : ClassId) (iS : Nat → Nat), ∀ q, vwCl[k]? = some q → u_Kn s q.1 q.2.1 q.2.2 cC iS := by
    intro k
    match k with
    | 0 => obtain ⟨c, i, h⟩ := u_known (n := 6) hts z_in0 (hts _ zq_381); exact ⟨c, i, fun q hq => by cases hq; exact h⟩
    | 1 => obtain ⟨c, i, h⟩ := u_known (n := 9) hts z_in1 (hts _ zq_414); exact ⟨c, i, fun q hq => by cases hq; exact h⟩
    | 2 => obtain ⟨c, i, h⟩ := u_known (n := 3) hts z_in2 (hts _ zq_478); exact ⟨c, i, fun q hq => by cases hq; exact h⟩
    | 3 => obtain ⟨c, i, h⟩ := u_known (n := 3) hts z_in3 (hts _ zq_258); exact ⟨c, i, fun q hq => by cases hq; exact h⟩
    | 4 => obtain ⟨c, i, h⟩ := u_known (n := 5) hts z_in4 (hts _ zq_145); exact ⟨c, i, fun q hq => by cases hq; exact h⟩
    | 5 => obtain ⟨c, i, h⟩ := u_known (n := 5) hts z_in5 (hts _ zq_356); exact ⟨c, i, fun q hq => by cases hq; exact h⟩
    | 6 => obtain ⟨c, i, h⟩ := u_known (n := 7) hts z_in6 (hts _ zq_280); exact ⟨c, i, fun q hq => by cases hq; exact h⟩
    | 7 => obtain ⟨c, i, h⟩ := u_known (n := 6) hts z_in7 (hts _ zq_499); exact ⟨c, i, fun q hq => by cases hq; exact h⟩
    | 8 => obtain ⟨c, i, h⟩ := u_known (n := 5) hts z_in8 (hts _ zq_453); exact ⟨c, i, fun q hq => by cases hq; exact h⟩
    | 9 => obtain ⟨c, i, h⟩ := u_known (n := 18) hts z_in9 (hts _ zq_170); exact ⟨c, i, fun q hq => by cases hq; exact h⟩
    | 10 => obtain ⟨c, i, h⟩ := u_known (n := 7) hts z_in10 (hts _ zq_323); exact ⟨c, i, fun q hq => by cases hq; exact h⟩
    | 11 => obtain ⟨c, i, h⟩ := u_known (n := 13) hts z_in11 (hts _ zq_137); exact ⟨c, i, fun q hq => by cases hq; exact h⟩
    | 12 => obtain ⟨c, i, h⟩ := u_known (n := 50) hts z_in12 (hts _ zq_1197); exact ⟨c, i, fun q hq => by cases hq; exact h⟩
    | k + 13 => exact ⟨0, fun _ => 0, fun q hq => by simp [vwCl] at hq⟩
  obtain ⟨cB, b1, b2⟩ := z_arr_prim (hts _ zq_1354)
  obtain ⟨cI, i1, i2⟩ := z_arr_prim (hts _ zq_168)
  obtain ⟨cJ, j1, j2⟩ := z_arr_prim (hts _ zq_354)
  obtain ⟨cZ, q1, q2⟩ := z_arr_prim (hts _ zq_1353)
  obtain ⟨cO, o1, o2⟩ := z_arr_obj (C := RX3) (hnw _ zq_484)
  obtain ⟨cS, s1, s2⟩ := z_arr_obj (C := RX7) (hnw _ zq_498)
  obtain ⟨cA, a1, a2⟩ := z_arr_arr (hnw _ zq_420)
  refine ⟨(fun k => (hk k).choose, fun k => (hk k).choose_spec.choose), fun k => if k = 13 then cB else if k = 14 then cI else if k = 15 then cJ else if k = 16 then cZ else if k = 17 then cO else if k = 18 then cS else cA, fun c q hq => (hk c).choose_spec.choose_spec q hq, fun k q hq => ?_⟩
  match k, hq with
  | 0, hq => cases hq; exact ⟨b1, b2⟩
  | 1, hq => cases hq; exact ⟨i1, i2⟩
  | 2, hq => cases hq; exact ⟨j1, j2⟩
  | 3, hq => cases hq; exact ⟨q1, q2⟩
  | 4, hq => cases hq; exact ⟨o1, o2⟩
  | 5, hq => cases hq; exact ⟨s1, s2⟩
  | 6, hq => cases hq; exact ⟨a1, a2⟩
  | k + 7, hq => simp [z_tys] at hq
theorem z_stat_0 {args : Array Value} {s : State} {A : Nat → Prop} (hts : ∀ w ∈ lw_tbl, w.before args s = true) (hg : (Jvm.Cond.and given_1 narrow_1).before args s = true) (hA : ∀ a : Nat, a < s.heap.size → ¬ A a) : ∃ t : Nat, va_Z RX11 "LOOKS" "[I" (.ref t) A s s.heap ∧ va_T .int t 24 (fun i => .int (Int32.ofInt (([2, 4, 3, 5, 4, 2, 5, 3, 4, 0, 5, 1, 0, 4, 1, 5, 0, 2, 1, 3, 2, 0, 3, 1] : List Int).getD i 0))) A s s.heap := by
  have hs := flat_of_before _ hg
  obtain ⟨t, h1, h2⟩ := va_Tof (N := 24) (f := fun i => .int (Int32.ofInt (([2, 4, 3, 5, 4, 2, 5, 3, 4, 0, 5, 1, 0, 4, 1, 5, 0, 2, 1, 3, 2, 0, 3, 1] : List Int).getD i 0))) (by decide) (hs (.arrayOf (.static "SolidsUnfolded" "LOOKS" "[I") .int) (by decide +kernel)) (va_eqt (hs (.eq (.length (.static "SolidsUnfolded" "LOOKS" "[I")) (.int 24)) (by decide +kernel))) (fun j hj => by
    match j, hj with
    | 0, _ => exact va_eqt (hs (.eq (.elem (.static "SolidsUnfolded" "LOOKS" "[I") (.int 0)) (.int (2))) (by decide +kernel))
    | 1, _ => exact va_eqt (hs (.eq (.elem (.static "SolidsUnfolded" "LOOKS" "[I") (.int 1)) (.int (4))) (by decide +kernel))
    | 2, _ => exact va_eqt (hs (.eq (.elem (.static "SolidsUnfolded" "LOOKS" "[I") (.int 2)) (.int (3))) (by decide +kernel))
    | 3, _ => exact va_eqt (hs (.eq (.elem (.static "SolidsUnfolded" "LOOKS" "[I") (.int 3)) (.int (5))) (by decide +kernel))
    | 4, _ => exact va_eqt (hs (.eq (.elem (.static "SolidsUnfolded" "LOOKS" "[I") (.int 4)) (.int (4))) (by decide +kernel))
    | 5, _ => exact va_eqt (hs (.eq (.elem (.static "SolidsUnfolded" "LOOKS" "[I") (.int 5)) (.int (2))) (by decide +kernel))
    | 6, _ => exact va_eqt (hs (.eq (.elem (.static "SolidsUnfolded" "LOOKS" "[I") (.int 6)) (.int (5))) (by decide +kernel))
    | 7, _ => exact va_eqt (hs (.eq (.elem (.static "SolidsUnfolded" "LOOKS" "[I") (.int 7)) (.int (3))) (by decide +kernel))
    | 8, _ => exact va_eqt (hs (.eq (.elem (.static "SolidsUnfolded" "LOOKS" "[I") (.int 8)) (.int (4))) (by decide +kernel))
    | 9, _ => exact va_eqt (hs (.eq (.elem (.static "SolidsUnfolded" "LOOKS" "[I") (.int 9)) (.int (0))) (by decide +kernel))
    | 10, _ => exact va_eqt (hs (.eq (.elem (.static "SolidsUnfolded" "LOOKS" "[I") (.int 10)) (.int (5))) (by decide +kernel))
    | 11, _ => exact va_eqt (hs (.eq (.elem (.static "SolidsUnfolded" "LOOKS" "[I") (.int 11)) (.int (1))) (by decide +kernel))
    | 12, _ => exact va_eqt (hs (.eq (.elem (.static "SolidsUnfolded" "LOOKS" "[I") (.int 12)) (.int (0))) (by decide +kernel))
    | 13, _ => exact va_eqt (hs (.eq (.elem (.static "SolidsUnfolded" "LOOKS" "[I") (.int 13)) (.int (4))) (by decide +kernel))
    | 14, _ => exact va_eqt (hs (.eq (.elem (.static "SolidsUnfolded" "LOOKS" "[I") (.int 14)) (.int (1))) (by decide +kernel))
    | 15, _ => exact va_eqt (hs (.eq (.elem (.static "SolidsUnfolded" "LOOKS" "[I") (.int 15)) (.int (5))) (by decide +kernel))
    | 16, _ => exact va_eqt (hs (.eq (.elem (.static "SolidsUnfolded" "LOOKS" "[I") (.int 16)) (.int (0))) (by decide +kernel))
    | 17, _ => exact va_eqt (hs (.eq (.elem (.static "SolidsUnfolded" "LOOKS" "[I") (.int 17)) (.int (2))) (by decide +kernel))
    | 18, _ => exact va_eqt (hs (.eq (.elem (.static "SolidsUnfolded" "LOOKS" "[I") (.int 18)) (.int (1))) (by decide +kernel))
    | 19, _ => exact va_eqt (hs (.eq (.elem (.static "SolidsUnfolded" "LOOKS" "[I") (.int 19)) (.int (3))) (by decide +kernel))
    | 20, _ => exact va_eqt (hs (.eq (.elem (.static "SolidsUnfolded" "LOOKS" "[I") (.int 20)) (.int (2))) (by decide +kernel))
    | 21, _ => exact va_eqt (hs (.eq (.elem (.static "SolidsUnfolded" "LOOKS" "[I") (.int 21)) (.int (0))) (by decide +kernel))
    | 22, _ => exact va_eqt (hs (.eq (.elem (.static "SolidsUnfolded" "LOOKS" "[I") (.int 22)) (.int (3))) (by decide +kernel))
    | 23, _ => exact va_eqt (hs (.eq (.elem (.static "SolidsUnfolded" "LOOKS" "[I") (.int 23)) (.int (1))) (by decide +kernel))
    | j + 24, hj => omega) hA
  exact ⟨t, va_Zref (hts _ (List.mem_of_getElem? (i := 669) (by decide +kernel))) (hts (.initialized RX11) (by decide +kernel)) h1 hA, h2⟩
theorem z_stat_1 {args : Array Value} {s : State} {A : Nat → Prop} (hts : ∀ w ∈ lw_tbl, w.before args s = true) (hg : (Jvm.Cond.and given_1 narrow_1).before args s = true) (hA : ∀ a : Nat, a < s.heap.size → ¬ A a) : ∃ t : Nat, va_Z RX11 "STEP_X" "[I" (.ref t) A s s.heap ∧ va_T .int t 4 (fun i => .int (Int32.ofInt (([1, 0, -1, 0] : List Int).getD i 0))) A s s.heap := by
  have hs := flat_of_before _ hg
  obtain ⟨t, h1, h2⟩ := va_Tof (N := 4) (f := fun i => .int (Int32.ofInt (([1, 0, -1, 0] : List Int).getD i 0))) (by decide) (hs (.arrayOf (.static "SolidsUnfolded" "STEP_X" "[I") .int) (by decide +kernel)) (va_eqt (hs (.eq (.length (.static "SolidsUnfolded" "STEP_X" "[I")) (.int 4)) (by decide +kernel))) (fun j hj => by
    match j, hj with
    | 0, _ => exact va_eqt (hs (.eq (.elem (.static "SolidsUnfolded" "STEP_X" "[I") (.int 0)) (.int (1))) (by decide +kernel))
    | 1, _ => exact va_eqt (hs (.eq (.elem (.static "SolidsUnfolded" "STEP_X" "[I") (.int 1)) (.int (0))) (by decide +kernel))
    | 2, _ => exact va_eqt (hs (.eq (.elem (.static "SolidsUnfolded" "STEP_X" "[I") (.int 2)) (.int (-1))) (by decide +kernel))
    | 3, _ => exact va_eqt (hs (.eq (.elem (.static "SolidsUnfolded" "STEP_X" "[I") (.int 3)) (.int (0))) (by decide +kernel))
    | j + 4, hj => omega) hA
  exact ⟨t, va_Zref (hts _ (List.mem_of_getElem? (i := 729) (by decide +kernel))) (hts (.initialized RX11) (by decide +kernel)) h1 hA, h2⟩
theorem z_stat_2 {args : Array Value} {s : State} {A : Nat → Prop} (hts : ∀ w ∈ lw_tbl, w.before args s = true) (hg : (Jvm.Cond.and given_1 narrow_1).before args s = true) (hA : ∀ a : Nat, a < s.heap.size → ¬ A a) : ∃ t : Nat, va_Z RX11 "STEP_Y" "[I" (.ref t) A s s.heap ∧ va_T .int t 4 (fun i => .int (Int32.ofInt (([0, 1, 0, -1] : List Int).getD i 0))) A s s.heap := by
  have hs := flat_of_before _ hg
  obtain ⟨t, h1, h2⟩ := va_Tof (N := 4) (f := fun i => .int (Int32.ofInt (([0, 1, 0, -1] : List Int).getD i 0))) (by decide) (hs (.arrayOf (.static "SolidsUnfolded" "STEP_Y" "[I") .int) (by decide +kernel)) (va_eqt (hs (.eq (.length (.static "SolidsUnfolded" "STEP_Y" "[I")) (.int 4)) (by decide +kernel))) (fun j hj => by
    match j, hj with
    | 0, _ => exact va_eqt (hs (.eq (.elem (.static "SolidsUnfolded" "STEP_Y" "[I") (.int 0)) (.int (0))) (by decide +kernel))
    | 1, _ => exact va_eqt (hs (.eq (.elem (.static "SolidsUnfolded" "STEP_Y" "[I") (.int 1)) (.int (1))) (by decide +kernel))
    | 2, _ => exact va_eqt (hs (.eq (.elem (.static "SolidsUnfolded" "STEP_Y" "[I") (.int 2)) (.int (0))) (by decide +kernel))
    | 3, _ => exact va_eqt (hs (.eq (.elem (.static "SolidsUnfolded" "STEP_Y" "[I") (.int 3)) (.int (-1))) (by decide +kernel))
    | j + 4, hj => omega) hA
  exact ⟨t, va_Zref (hts _ (List.mem_of_getElem? (i := 739) (by decide +kernel))) (hts (.initialized RX11) (by decide +kernel)) h1 hA, h2⟩
theorem z_stat_3 {args : Array Value} {s : State} {A : Nat → Prop} (hts : ∀ w ∈ lw_tbl, w.before args s = true) (hg : (Jvm.Cond.and given_1 narrow_1).before args s = true) (hA : ∀ a : Nat, a < s.heap.size → ¬ A a) : ∃ t : Nat, va_Z RX12 "STEP_X" "[I" (.ref t) A s s.heap ∧ va_T .int t 6 (fun i => .int (Int32.ofInt (([1, -1, 0, 0, 0, 0] : List Int).getD i 0))) A s s.heap := by
  have hs := flat_of_before _ hg
  obtain ⟨t, h1, h2⟩ := va_Tof (N := 6) (f := fun i => .int (Int32.ofInt (([1, -1, 0, 0, 0, 0] : List Int).getD i 0))) (by decide) (hs (.arrayOf (.static "SolidsUnfoldedModel" "STEP_X" "[I") .int) (by decide +kernel)) (va_eqt (hs (.eq (.length (.static "SolidsUnfoldedModel" "STEP_X" "[I")) (.int 6)) (by decide +kernel))) (fun j hj => by
    match j, hj with
    | 0, _ => exact va_eqt (hs (.eq (.elem (.static "SolidsUnfoldedModel" "STEP_X" "[I") (.int 0)) (.int (1))) (by decide +kernel))
    | 1, _ => exact va_eqt (hs (.eq (.elem (.static "SolidsUnfoldedModel" "STEP_X" "[I") (.int 1)) (.int (-1))) (by decide +kernel))
    | 2, _ => exact va_eqt (hs (.eq (.elem (.static "SolidsUnfoldedModel" "STEP_X" "[I") (.int 2)) (.int (0))) (by decide +kernel))
    | 3, _ => exact va_eqt (hs (.eq (.elem (.static "SolidsUnfoldedModel" "STEP_X" "[I") (.int 3)) (.int (0))) (by decide +kernel))
    | 4, _ => exact va_eqt (hs (.eq (.elem (.static "SolidsUnfoldedModel" "STEP_X" "[I") (.int 4)) (.int (0))) (by decide +kernel))
    | 5, _ => exact va_eqt (hs (.eq (.elem (.static "SolidsUnfoldedModel" "STEP_X" "[I") (.int 5)) (.int (0))) (by decide +kernel))
    | j + 6, hj => omega) hA
  exact ⟨t, va_Zref (hts _ (List.mem_of_getElem? (i := 1439) (by decide +kernel))) (hts (.initialized RX12) (by decide +kernel)) h1 hA, h2⟩
theorem z_stat_4 {args : Array Value} {s : State} {A : Nat → Prop} (hts : ∀ w ∈ lw_tbl, w.before args s = true) (hg : (Jvm.Cond.and given_1 narrow_1).before args s = true) (hA : ∀ a : Nat, a < s.heap.size → ¬ A a) : ∃ t : Nat, va_Z RX12 "STEP_Y" "[I" (.ref t) A s s.heap ∧ va_T .int t 6 (fun i => .int (Int32.ofInt (([0, 0, 1, -1, 0, 0] : List Int).getD i 0))) A s s.heap := by
  have hs := flat_of_before _ hg
  obtain ⟨t, h1, h2⟩ := va_Tof (N := 6) (f := fun i => .int (Int32.ofInt (([0, 0, 1, -1, 0, 0] : List Int).getD i 0))) (by decide) (hs (.arrayOf (.static "SolidsUnfoldedModel" "STEP_Y" "[I") .int) (by decide +kernel)) (va_eqt (hs (.eq (.length (.static "SolidsUnfoldedModel" "STEP_Y" "[I")) (.int 6)) (by decide +kernel))) (fun j hj => by
    match j, hj with
    | 0, _ => exact va_eqt (hs (.eq (.elem (.static "SolidsUnfoldedModel" "STEP_Y" "[I") (.int 0)) (.int (0))) (by decide +kernel))
    | 1, _ => exact va_eqt (hs (.eq (.elem (.static "SolidsUnfoldedModel" "STEP_Y" "[I") (.int 1)) (.int (0))) (by decide +kernel))
    | 2, _ => exact va_eqt (hs (.eq (.elem (.static "SolidsUnfoldedModel" "STEP_Y" "[I") (.int 2)) (.int (1))) (by decide +kernel))
    | 3, _ => exact va_eqt (hs (.eq (.elem (.static "SolidsUnfoldedModel" "STEP_Y" "[I") (.int 3)) (.int (-1))) (by decide +kernel))
    | 4, _ => exact va_eqt (hs (.eq (.elem (.static "SolidsUnfoldedModel" "STEP_Y" "[I") (.int 4)) (.int (0))) (by decide +kernel))
    | 5, _ => exact va_eqt (hs (.eq (.elem (.static "SolidsUnfoldedModel" "STEP_Y" "[I") (.int 5)) (.int (0))) (by decide +kernel))
    | j + 6, hj => omega) hA
  exact ⟨t, va_Zref (hts _ (List.mem_of_getElem? (i := 1441) (by decide +kernel))) (hts (.initialized RX12) (by decide +kernel)) h1 hA, h2⟩
theorem z_stat_5 {args : Array Value} {s : State} {A : Nat → Prop} (hts : ∀ w ∈ lw_tbl, w.before args s = true) (hg : (Jvm.Cond.and given_1 narrow_1).before args s = true) (hA : ∀ a : Nat, a < s.heap.size → ¬ A a) : ∃ t : Nat, va_Z RX12 "STEP_Z" "[I" (.ref t) A s s.heap ∧ va_T .int t 6 (fun i => .int (Int32.ofInt (([0, 0, 0, 0, 1, -1] : List Int).getD i 0))) A s s.heap := by
  have hs := flat_of_before _ hg
  obtain ⟨t, h1, h2⟩ := va_Tof (N := 6) (f := fun i => .int (Int32.ofInt (([0, 0, 0, 0, 1, -1] : List Int).getD i 0))) (by decide) (hs (.arrayOf (.static "SolidsUnfoldedModel" "STEP_Z" "[I") .int) (by decide +kernel)) (va_eqt (hs (.eq (.length (.static "SolidsUnfoldedModel" "STEP_Z" "[I")) (.int 6)) (by decide +kernel))) (fun j hj => by
    match j, hj with
    | 0, _ => exact va_eqt (hs (.eq (.elem (.static "SolidsUnfoldedModel" "STEP_Z" "[I") (.int 0)) (.int (0))) (by decide +kernel))
    | 1, _ => exact va_eqt (hs (.eq (.elem (.static "SolidsUnfoldedModel" "STEP_Z" "[I") (.int 1)) (.int (0))) (by decide +kernel))
    | 2, _ => exact va_eqt (hs (.eq (.elem (.static "SolidsUnfoldedModel" "STEP_Z" "[I") (.int 2)) (.int (0))) (by decide +kernel))
    | 3, _ => exact va_eqt (hs (.eq (.elem (.static "SolidsUnfoldedModel" "STEP_Z" "[I") (.int 3)) (.int (0))) (by decide +kernel))
    | 4, _ => exact va_eqt (hs (.eq (.elem (.static "SolidsUnfoldedModel" "STEP_Z" "[I") (.int 4)) (.int (1))) (by decide +kernel))
    | 5, _ => exact va_eqt (hs (.eq (.elem (.static "SolidsUnfoldedModel" "STEP_Z" "[I") (.int 5)) (.int (-1))) (by decide +kernel))
    | j + 6, hj => omega) hA
  exact ⟨t, va_Zref (hts _ (List.mem_of_getElem? (i := 1443) (by decide +kernel))) (hts (.initialized RX12) (by decide +kernel)) h1 hA, h2⟩
theorem z_stat_6 {args : Array Value} {s : State} {A : Nat → Prop} (hts : ∀ w ∈ lw_tbl, w.before args s = true) (hg : (Jvm.Cond.and given_1 narrow_1).before args s = true) (hA : ∀ a : Nat, a < s.heap.size → ¬ A a) : ∃ t : Nat, va_Z RX12 "U" "[I" (.ref t) A s s.heap ∧ va_T .int t 6 (fun i => .int (Int32.ofInt (([2, 4, 4, 0, 0, 2] : List Int).getD i 0))) A s s.heap := by
  have hs := flat_of_before _ hg
  obtain ⟨t, h1, h2⟩ := va_Tof (N := 6) (f := fun i => .int (Int32.ofInt (([2, 4, 4, 0, 0, 2] : List Int).getD i 0))) (by decide) (hs (.arrayOf (.static "SolidsUnfoldedModel" "U" "[I") .int) (by decide +kernel)) (va_eqt (hs (.eq (.length (.static "SolidsUnfoldedModel" "U" "[I")) (.int 6)) (by decide +kernel))) (fun j hj => by
    match j, hj with
    | 0, _ => exact va_eqt (hs (.eq (.elem (.static "SolidsUnfoldedModel" "U" "[I") (.int 0)) (.int (2))) (by decide +kernel))
    | 1, _ => exact va_eqt (hs (.eq (.elem (.static "SolidsUnfoldedModel" "U" "[I") (.int 1)) (.int (4))) (by decide +kernel))
    | 2, _ => exact va_eqt (hs (.eq (.elem (.static "SolidsUnfoldedModel" "U" "[I") (.int 2)) (.int (4))) (by decide +kernel))
    | 3, _ => exact va_eqt (hs (.eq (.elem (.static "SolidsUnfoldedModel" "U" "[I") (.int 3)) (.int (0))) (by decide +kernel))
    | 4, _ => exact va_eqt (hs (.eq (.elem (.static "SolidsUnfoldedModel" "U" "[I") (.int 4)) (.int (0))) (by decide +kernel))
    | 5, _ => exact va_eqt (hs (.eq (.elem (.static "SolidsUnfoldedModel" "U" "[I") (.int 5)) (.int (2))) (by decide +kernel))
    | j + 6, hj => omega) hA
  exact ⟨t, va_Zref (hts _ (List.mem_of_getElem? (i := 1452) (by decide +kernel))) (hts (.initialized RX12) (by decide +kernel)) h1 hA, h2⟩
theorem z_stat_7 {args : Array Value} {s : State} {A : Nat → Prop} (hts : ∀ w ∈ lw_tbl, w.before args s = true) (hg : (Jvm.Cond.and given_1 narrow_1).before args s = true) (hA : ∀ a : Nat, a < s.heap.size → ¬ A a) : ∃ t : Nat, va_Z RX12 "V" "[I" (.ref t) A s s.heap ∧ va_T .int t 6 (fun i => .int (Int32.ofInt (([4, 2, 0, 4, 2, 0] : List Int).getD i 0))) A s s.heap := by
  have hs := flat_of_before _ hg
  obtain ⟨t, h1, h2⟩ := va_Tof (N := 6) (f := fun i => .int (Int32.ofInt (([4, 2, 0, 4, 2, 0] : List Int).getD i 0))) (by decide) (hs (.arrayOf (.static "SolidsUnfoldedModel" "V" "[I") .int) (by decide +kernel)) (va_eqt (hs (.eq (.length (.static "SolidsUnfoldedModel" "V" "[I")) (.int 6)) (by decide +kernel))) (fun j hj => by
    match j, hj with
    | 0, _ => exact va_eqt (hs (.eq (.elem (.static "SolidsUnfoldedModel" "V" "[I") (.int 0)) (.int (4))) (by decide +kernel))
    | 1, _ => exact va_eqt (hs (.eq (.elem (.static "SolidsUnfoldedModel" "V" "[I") (.int 1)) (.int (2))) (by decide +kernel))
    | 2, _ => exact va_eqt (hs (.eq (.elem (.static "SolidsUnfoldedModel" "V" "[I") (.int 2)) (.int (0))) (by decide +kernel))
    | 3, _ => exact va_eqt (hs (.eq (.elem (.static "SolidsUnfoldedModel" "V" "[I") (.int 3)) (.int (4))) (by decide +kernel))
    | 4, _ => exact va_eqt (hs (.eq (.elem (.static "SolidsUnfoldedModel" "V" "[I") (.int 4)) (.int (2))) (by decide +kernel))
    | 5, _ => exact va_eqt (hs (.eq (.elem (.static "SolidsUnfoldedModel" "V" "[I") (.int 5)) (.int (0))) (by decide +kernel))
    | j + 6, hj => omega) hA
  exact ⟨t, va_Zref (hts _ (List.mem_of_getElem? (i := 1454) (by decide +kernel))) (hts (.initialized RX12) (by decide +kernel)) h1 hA, h2⟩
theorem z_start_G {b : Nat} {s : State} (hts : ∀ w ∈ lw_tbl, w.before #[Value.ref b] s = true) (hg : (Jvm.Cond.and given_1 narrow_1).before #[Value.ref b] s = true) : ∃ (D : va_G) (cy : Nat → ClassId) (ad : Nat → Nat), z_G D cy ad (fun q => s.heap.size ≤ q) s #[Value.ref b] := by
  have hgw : ∀ w ∈ z_gw, w.before #[Value.ref b] s = true := fun w hw => hts w (List.mem_filter.mp hw).1
  have hnw : ∀ w ∈ z_nw, va_Nw w s := fun w hw => by
    have h1 := hts w (List.mem_filter.mp hw).1
    have h2 := (List.mem_filter.mp hw).2
    unfold z_isnest at h2
    split at h2
    · exact va_Nw.of rfl h1
    · exact va_Nw.of rfl h1
    · exact h1
    · cases h2
  obtain ⟨D, cy, hK⟩ := z_start_K hgw hnw
  have hA : ∀ a : Nat, a < s.heap.size → ¬ (fun q => s.heap.size ≤ q) a := fun a h => Nat.not_le.mpr h
  obtain ⟨t0, z0, y0⟩ := z_stat_0 hts hg hA
  obtain ⟨t1, z1, y1⟩ := z_stat_1 hts hg hA
  obtain ⟨t2, z2, y2⟩ := z_stat_2 hts hg hA
  obtain ⟨t3, z3, y3⟩ := z_stat_3 hts hg hA
  obtain ⟨t4, z4, y4⟩ := z_stat_4 hts hg hA
  obtain ⟨t5, z5, y5⟩ := z_stat_5 hts hg hA
  obtain ⟨t6, z6, y6⟩ := z_stat_6 hts hg hA
  obtain ⟨t7, z7, y7⟩ := z_stat_7 hts hg hA
  refine ⟨D, cy, fun x => if x = 1001 then t0 else if x = 1002 then t1 else if x = 1003 then t2 else if x = 1004 then t3 else if x = 1005 then t4 else if x = 1006 then t5 else if x = 1007 then t6 else if x = 1008 then t7 else 0, hgw, hnw, hK, fun j q hq => ?_⟩
  match j, hq with
  | 0, hq => cases hq; exact ⟨z0, y0⟩
  | 1, hq => cases hq; exact ⟨z1, y1⟩
  | 2, hq => cases hq; exact ⟨z2, y2⟩
  | 3, hq => cases hq; exact ⟨z3, y3⟩
  | 4, hq => cases hq; exact ⟨z4, y4⟩
  | 5, hq => cases hq; exact ⟨z5, y5⟩
  | 6, hq => cases hq; exact ⟨z6, y6⟩
  | 7, hq => cases hq; exact ⟨z7, y7⟩
  | j + 8, hq => simp [z_stat] at hq

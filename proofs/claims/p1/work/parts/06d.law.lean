/-! THE CLAIM OUT OF ONE WALK OF THE LAW'S BODY. Your part is whole_start (and what it stands on); all else here is the same for every law, but numbers. -/
def R_law : String := "SolidsUnfoldedLaw"
def lw_P (b : Addr) (xs : List Int32) (args : Array Value) (s : State) : Prop := args = #[.ref b] ∧ s.IntsAt b xs ∧ xs.length ≤ 6 ∧ (Jvm.Cond.and given_1 narrow_1).before args s = true
def lw_Q (_ : Array Value) (s : State) (o : Outcome) (t : State) : Prop := o = .returned (some (.int 1)) ∧ Framed s o t [] 600000 7302250
def lw_Z (below : List Frame) (a : Array Value) (s : State) : State → Prop := fun t => ∃ o, t.status = .running ∧ Ended t below o ∧ lw_Q a s o t
/-- the law's own end, with 1 on the stack, nothing written that was there before, its room as the claim has it -/
theorem lw_ret {p : Program} {l : Launch} {e : Env} {s : State} {m : MethodId} {below : List Frame} {meth : Method} {c : Code} {b : Nat} (hx : p.tables.exec = Jvm.exec) (hb : c.code = code) (hr : meth.sig.returnType = ret) (hlocks : meth.locks = false) {pc : Nat} {H : Heap} {ls : Array Slot} (hdg : decode code pc = .ok (.ireturn, 1)) : W p l e room_1 s m #[Value.ref b] below meth c H [] 600000 7302250 (lw_Z below #[Value.ref b] s) (F0 m pc ls [.int 1]) := by
  intro T hT X
  obtain ⟨fs, hret, hrun, hended, hW, hframe⟩ := X.leave (v := some (.int 1)) (hlocks := hlocks) (fun h => by rw [hr] at h; cases h)
  have hmeth' : T.vm.method? m = some meth := X.method'
  refine ⟨T.setFrames fs, ?_, .returned (some (.int 1)), hrun, hended, rfl, ⟨_, rfl⟩, hW, hframe⟩
  jvm_step X.here [X.here.top, hx, hb, hdg, hmeth', hr, ret, narrow_b1]
  (try refine ⟨rfl, ?_⟩); (try refine ⟨rfl, ?_⟩)
  first | (intro acts; rw [hret _ acts rfl rfl rfl]) | rw [hret _ _ rfl rfl rfl]
  exact Steps.refl _
/-- what holds at the law's entry: the machine, the code, the tables' words (any of lw_tbl by 'hts w (by decide +kernel)'), the script of L ints xs at the cell b, what the Statement gives of the start (any of its parts by flat_of_before) -/
def lw_At (p : Program) (s : State) (m : MethodId) (meth : Method) (c : Code) (b L : Nat) (xs : Nat → Int32) : Prop :=
  p.tables.exec = Jvm.exec ∧ c.code = code ∧ meth.sig.returnType = ret ∧ c.maxLocals = 4 ∧ s.vm.findClass R_law = some m.cls ∧ (∀ w ∈ lw_tbl, w.before #[Value.ref b] s = true) ∧ va_X b L xs s s.heap ∧ b < s.heap.size ∧ meth.locks = false ∧ (Jvm.Cond.and given_1 narrow_1).before #[Value.ref b] s = true
def op_0 (I J : z_Mem → Prop) : Prop := ∀ (μ : z_Mem) (a1 a2 a3 a4 a5 : Int), I μ → z_ok μ z_n → z_I a1 → z_I a2 → z_I a3 → z_I a4 → z_I a5 → z_ci m_X11_feed [(2, 1), (0, a1), (0, a2), (0, a3), (0, a4), (0, a5)] μ 200 (fun x μ1 => z_ci m_X12_feed [(2, 113), (0, a1), (0, a2), (0, a3), (0, a4), (0, a5)] μ1 200 (fun y μ2 => y = x ∧ J μ2))
def op_1 (I J : z_Mem → Prop) : Prop := ∀ (μ : z_Mem) (a1 : Int), I μ → z_ok μ z_n → z_I a1 → z_ci m_X11_end [(2, 1), (0, a1)] μ 200 (fun x μ1 => z_ci m_X12_end [(2, 113), (0, a1)] μ1 200 (fun y μ2 => y = x ∧ J μ2))
def op_2 (I J : z_Mem → Prop) : Prop := ∀ (μ : z_Mem), I μ → z_ok μ z_n → z_ci m_X11_solid [(2, 1)] μ 200 (fun x μ1 => z_ci m_X12_solid [(2, 113)] μ1 200 (fun y μ2 => y = x ∧ J μ2))
def op_3 (I J : z_Mem → Prop) : Prop := ∀ (μ : z_Mem) (a1 : Int), I μ → z_ok μ z_n → z_I a1 → z_ci m_X11_hinge [(2, 1), (0, a1)] μ 200 (fun x μ1 => z_ci m_X12_hinge [(2, 113), (0, a1)] μ1 200 (fun y μ2 => y = x ∧ J μ2))
def op_4 (I J : z_Mem → Prop) : Prop := ∀ (μ : z_Mem) (a1 : Int), I μ → z_ok μ z_n → z_I a1 → z_ci m_X11_cut [(2, 1), (0, a1)] μ 200 (fun x μ1 => z_ci m_X12_cut [(2, 113), (0, a1)] μ1 200 (fun y μ2 => y = x ∧ J μ2))
def op_5 (I J : z_Mem → Prop) : Prop := ∀ (μ : z_Mem) (a1 : Int), I μ → z_ok μ z_n → z_I a1 → z_ci m_X11_root [(2, 1), (0, a1)] μ 200 (fun x μ1 => z_ci m_X12_root [(2, 113), (0, a1)] μ1 200 (fun y μ2 => y = x ∧ J μ2))
def op_6 (I J : z_Mem → Prop) : Prop := ∀ (μ : z_Mem) (a1 a2 : Int), I μ → z_ok μ z_n → z_I a1 → z_I a2 → z_ci m_X11_weigh [(2, 1), (0, a1), (0, a2)] μ 200 (fun x μ1 => z_ci m_X12_weigh [(2, 113), (0, a1), (0, a2)] μ1 200 (fun y μ2 => y = x ∧ J μ2))
def op_7 (I J : z_Mem → Prop) : Prop := ∀ (μ : z_Mem), I μ → z_ok μ z_n → z_ci m_X11_span [(2, 1)] μ 200 (fun x μ1 => z_ci m_X12_span [(2, 113)] μ1 200 (fun y μ2 => y = x ∧ J μ2))
def op_8 (I J : z_Mem → Prop) : Prop := ∀ (μ : z_Mem) (a1 : Int), I μ → z_ok μ z_n → z_I a1 → z_ci m_X11_tree [(2, 1), (0, a1)] μ 200 (fun x μ1 => z_ci m_X12_tree [(2, 113), (0, a1)] μ1 200 (fun y μ2 => y = x ∧ J μ2))
def op_9 (I J : z_Mem → Prop) : Prop := ∀ (μ : z_Mem) (a1 a2 : Int), I μ → z_ok μ z_n → z_I a1 → z_I a2 → z_ci m_X11_trade [(2, 1), (0, a1), (0, a2)] μ 200 (fun x μ1 => z_ci m_X12_trade [(2, 113), (0, a1), (0, a2)] μ1 200 (fun y μ2 => y = x ∧ J μ2))
def op_10 (I J : z_Mem → Prop) : Prop := ∀ (μ : z_Mem), I μ → z_ok μ z_n → z_ci m_X11_mend [(2, 1)] μ 200 (fun x μ1 => z_ci m_X12_mend [(2, 113)] μ1 200 (fun y μ2 => y = x ∧ J μ2))
def op_11 (I J : z_Mem → Prop) : Prop := ∀ (μ : z_Mem), I μ → z_ok μ z_n → z_ci m_X11_seek [(2, 1)] μ 200 (fun x μ1 => z_ci m_X12_seek [(2, 113)] μ1 200 (fun y μ2 => y = x ∧ J μ2))
def op_12 (I J : z_Mem → Prop) : Prop := ∀ (μ : z_Mem), I μ → z_ok μ z_n → z_ci m_X11_undo [(2, 1)] μ 200 (fun x μ1 => z_ci m_X12_undo [(2, 113)] μ1 200 (fun y μ2 => y = x ∧ J μ2))
def op_13 (I J : z_Mem → Prop) : Prop := ∀ (μ : z_Mem) (a1 : Int), I μ → z_ok μ z_n → z_I a1 → z_ci m_X11_keep [(2, 1), (0, a1)] μ 200 (fun x μ1 => z_ci m_X12_keep [(2, 113), (0, a1)] μ1 200 (fun y μ2 => y = x ∧ J μ2))
def op_14 (I J : z_Mem → Prop) : Prop := ∀ (μ : z_Mem) (a1 : Int), I μ → z_ok μ z_n → z_I a1 → z_ci m_X11_back [(2, 1), (0, a1)] μ 200 (fun x μ1 => z_ci m_X12_back [(2, 113), (0, a1)] μ1 200 (fun y μ2 => y = x ∧ J μ2))
def op_15 (I J : z_Mem → Prop) : Prop := ∀ (μ : z_Mem) (a1 a2 : Int), I μ → z_ok μ z_n → z_I a1 → z_I a2 → z_ci m_X11_face [(2, 1), (0, a1), (0, a2)] μ 200 (fun x μ1 => z_ci m_X12_face [(2, 113), (0, a1), (0, a2)] μ1 200 (fun y μ2 => y = x ∧ J μ2))
def op_16 (I J : z_Mem → Prop) : Prop := ∀ (μ : z_Mem) (a1 a2 a3 : Int), I μ → z_ok μ z_n → z_I a1 → z_I a2 → z_I a3 → z_ci m_X11_side [(2, 1), (0, a1), (0, a2), (0, a3)] μ 200 (fun x μ1 => z_ci m_X12_side [(2, 113), (0, a1), (0, a2), (0, a3)] μ1 200 (fun y μ2 => y = x ∧ J μ2))
def op_17 (I J : z_Mem → Prop) : Prop := ∀ (μ : z_Mem) (a1 a2 : Int), I μ → z_ok μ z_n → z_I a1 → z_I a2 → z_ci m_X11_edge [(2, 1), (0, a1), (0, a2)] μ 200 (fun x μ1 => z_ci m_X12_edge [(2, 113), (0, a1), (0, a2)] μ1 200 (fun y μ2 => y = x ∧ J μ2))
def op_18 (I J : z_Mem → Prop) : Prop := ∀ (μ : z_Mem) (a1 a2 a3 : Int), I μ → z_ok μ z_n → z_I a1 → z_I a2 → z_I a3 → z_ci m_X11_corner [(2, 1), (0, a1), (0, a2), (0, a3)] μ 200 (fun x μ1 => z_ci m_X12_corner [(2, 113), (0, a1), (0, a2), (0, a3)] μ1 200 (fun y μ2 => y = x ∧ J μ2))
def op_19 (I J : z_Mem → Prop) : Prop := ∀ (μ : z_Mem) (a1 a2 : Int), I μ → z_ok μ z_n → z_I a1 → z_I a2 → z_ci m_X11_vertex [(2, 1), (0, a1), (0, a2)] μ 200 (fun x μ1 => z_ci m_X12_vertex [(2, 113), (0, a1), (0, a2)] μ1 200 (fun y μ2 => y = x ∧ J μ2))
def op_20 (I J : z_Mem → Prop) : Prop := ∀ (μ : z_Mem) (a1 a2 : Int), I μ → z_ok μ z_n → z_I a1 → z_I a2 → z_ci m_X11_place [(2, 1), (0, a1), (0, a2)] μ 200 (fun x μ1 => z_ci m_X12_place [(2, 113), (0, a1), (0, a2)] μ1 200 (fun y μ2 => y = x ∧ J μ2))
def op_21 (I J : z_Mem → Prop) : Prop := ∀ (μ : z_Mem) (a1 : Int), I μ → z_ok μ z_n → z_I a1 → z_ci m_X11_over [(2, 1), (0, a1)] μ 200 (fun x μ1 => z_ci m_X12_over [(2, 113), (0, a1)] μ1 200 (fun y μ2 => y = x ∧ J μ2))
def op_22 (I J : z_Mem → Prop) : Prop := ∀ (μ : z_Mem) (a1 : Int), I μ → z_ok μ z_n → z_I a1 → z_ci m_X11_box [(2, 1), (0, a1)] μ 200 (fun x μ1 => z_ci m_X12_box [(2, 113), (0, a1)] μ1 200 (fun y μ2 => y = x ∧ J μ2))
def op_23 (I J : z_Mem → Prop) : Prop := ∀ (μ : z_Mem) (a1 : Int), I μ → z_ok μ z_n → z_I a1 → z_ci m_X11_part [(2, 1), (0, a1)] μ 200 (fun x μ1 => z_ci m_X12_part [(2, 113), (0, a1)] μ1 200 (fun y μ2 => y = x ∧ J μ2))
def op_24 (I J : z_Mem → Prop) : Prop := ∀ (μ : z_Mem) (a1 a2 a3 : Int), I μ → z_ok μ z_n → z_I a1 → z_I a2 → z_I a3 → z_ci m_X11_way [(2, 1), (0, a1), (0, a2), (0, a3)] μ 200 (fun x μ1 => z_ci m_X12_way [(2, 113), (0, a1), (0, a2), (0, a3)] μ1 200 (fun y μ2 => y = x ∧ J μ2))
def op_25 (I J : z_Mem → Prop) : Prop := ∀ (μ : z_Mem) (a1 : Int), I μ → z_ok μ z_n → z_I a1 → z_ci m_X11_free [(2, 1), (0, a1)] μ 200 (fun x μ1 => z_ci m_X12_free [(2, 113), (0, a1)] μ1 200 (fun y μ2 => y = x ∧ J μ2))
def op_26 (I J : z_Mem → Prop) : Prop := ∀ (μ : z_Mem) (a1 a2 : Int), I μ → z_ok μ z_n → z_I a1 → z_I a2 → z_ci m_X11_rim [(2, 1), (0, a1), (0, a2)] μ 200 (fun x μ1 => z_ci m_X12_rim [(2, 113), (0, a1), (0, a2)] μ1 200 (fun y μ2 => y = x ∧ J μ2))
def op_27 (I J : z_Mem → Prop) : Prop := ∀ (μ : z_Mem), I μ → z_ok μ z_n → z_ci m_X11_gluings [(2, 1)] μ 200 (fun x μ1 => z_ci m_X12_gluings [(2, 113)] μ1 200 (fun y μ2 => y = x ∧ J μ2))
def op_28 (I J : z_Mem → Prop) : Prop := ∀ (μ : z_Mem) (a1 a2 : Int), I μ → z_ok μ z_n → z_I a1 → z_I a2 → z_ci m_X11_glued [(2, 1), (0, a1), (0, a2)] μ 200 (fun x μ1 => z_ci m_X12_glued [(2, 113), (0, a1), (0, a2)] μ1 200 (fun y μ2 => y = x ∧ J μ2))
def op_29 (I J : z_Mem → Prop) : Prop := ∀ (μ : z_Mem) (a1 a2 : Int), I μ → z_ok μ z_n → z_I a1 → z_I a2 → z_ci m_X11_lacks [(2, 1), (0, a1), (0, a2)] μ 200 (fun x μ1 => z_ci m_X12_lacks [(2, 113), (0, a1), (0, a2)] μ1 200 (fun y μ2 => y = x ∧ J μ2))
def op_30 (I J : z_Mem → Prop) : Prop := ∀ (μ : z_Mem), I μ → z_ok μ z_n → z_ci m_X11_itself [(2, 1)] μ 200 (fun x μ1 => z_ci m_X12_itself [(2, 113)] μ1 200 (fun y μ2 => y = x ∧ J μ2))
def op_31 (I J : z_Mem → Prop) : Prop := ∀ (μ : z_Mem), I μ → z_ok μ z_n → z_cl' m_X11_outline [(2, 1)] μ 200 (fun x μ1 => z_cl' m_X12_outline [(2, 113)] μ1 200 (fun y μ2 => y = x ∧ J μ2))
def op_32 (I J : z_Mem → Prop) : Prop := ∀ (μ : z_Mem) (a1 : Int), I μ → z_ok μ z_n → z_I a1 → z_ci m_X11_alike [(2, 1), (0, a1)] μ 200 (fun x μ1 => z_ci m_X12_alike [(2, 113), (0, a1)] μ1 200 (fun y μ2 => y = x ∧ J μ2))
def op_33 (I J : z_Mem → Prop) : Prop := ∀ (μ : z_Mem) (a1 : Int), I μ → z_ok μ z_n → z_I a1 → z_ci m_X11_best [(2, 1), (0, a1)] μ 200 (fun x μ1 => z_ci m_X12_best [(2, 113), (0, a1)] μ1 200 (fun y μ2 => y = x ∧ J μ2))
def op_34 (I J : z_Mem → Prop) : Prop := ∀ (μ : z_Mem) (a1 : Int), I μ → z_ok μ z_n → z_I a1 → z_ci m_X11_count [(2, 1), (0, a1)] μ 200 (fun x μ1 => z_ci m_X12_count [(2, 113), (0, a1)] μ1 200 (fun y μ2 => y = x ∧ J μ2))
def op_all (I J : z_Mem → Prop) : Prop := op_0 I J ∧ op_1 I J ∧ op_2 I J ∧ op_3 I J ∧ op_4 I J ∧ op_5 I J ∧ op_6 I J ∧ op_7 I J ∧ op_8 I J ∧ op_9 I J ∧ op_10 I J ∧ op_11 I J ∧ op_12 I J ∧ op_13 I J ∧ op_14 I J ∧ op_15 I J ∧ op_16 I J ∧ op_17 I J ∧ op_18 I J ∧ op_19 I J ∧ op_20 I J ∧ op_21 I J ∧ op_22 I J ∧ op_23 I J ∧ op_24 I J ∧ op_25 I J ∧ op_26 I J ∧ op_27 I J ∧ op_28 I J ∧ op_29 I J ∧ op_30 I J ∧ op_31 I J ∧ op_32 I J ∧ op_33 I J ∧ op_34 I J
theorem zsL_13 : z_VL R_law 13 m_X11_feed 11 := ⟨zq_571, zq_572, zq_573, _, rfl, rfl⟩
theorem zsL_17 : z_VL R_law 17 m_X12_feed 12 := ⟨zq_1355, zq_1356, zq_1357, _, rfl, rfl⟩
theorem zsL_18 : z_VL R_law 18 m_X11_end 11 := ⟨zq_579, zq_580, zq_581, _, rfl, rfl⟩
theorem zsL_22 : z_VL R_law 22 m_X12_end 12 := ⟨zq_1363, zq_1364, zq_1365, _, rfl, rfl⟩
theorem zsL_23 : z_VL R_law 23 m_X11_solid 11 := ⟨zq_583, zq_584, zq_585, _, rfl, rfl⟩
theorem zsL_27 : z_VL R_law 27 m_X12_solid 12 := ⟨zq_1367, zq_1368, zq_1369, _, rfl, rfl⟩
theorem zsL_28 : z_VL R_law 28 m_X11_hinge 11 := ⟨zq_744, zq_745, zq_746, _, rfl, rfl⟩
theorem zsL_31 : z_VL R_law 31 m_X12_hinge 12 := ⟨zq_1490, zq_1491, zq_1492, _, rfl, rfl⟩
theorem zsL_32 : z_VL R_law 32 m_X11_cut 11 := ⟨zq_789, zq_790, zq_791, _, rfl, rfl⟩
theorem zsL_35 : z_VL R_law 35 m_X12_cut 12 := ⟨zq_1522, zq_1523, zq_1524, _, rfl, rfl⟩
theorem zsL_36 : z_VL R_law 36 m_X11_root 11 := ⟨zq_798, zq_799, zq_800, _, rfl, rfl⟩
theorem zsL_39 : z_VL R_law 39 m_X12_root 12 := ⟨zq_1526, zq_1527, zq_1528, _, rfl, rfl⟩
theorem zsL_40 : z_VL R_law 40 m_X11_weigh 11 := ⟨zq_806, zq_807, zq_808, _, rfl, rfl⟩
theorem zsL_44 : z_VL R_law 44 m_X12_weigh 12 := ⟨zq_1534, zq_1535, zq_1536, _, rfl, rfl⟩
theorem zsL_45 : z_VL R_law 45 m_X11_span 11 := ⟨zq_810, zq_811, zq_812, _, rfl, rfl⟩
theorem zsL_48 : z_VL R_law 48 m_X12_span 12 := ⟨zq_1539, zq_1540, zq_1541, _, rfl, rfl⟩
theorem zsL_49 : z_VL R_law 49 m_X11_tree 11 := ⟨zq_818, zq_819, zq_820, _, rfl, rfl⟩
theorem zsL_52 : z_VL R_law 52 m_X12_tree 12 := ⟨zq_1547, zq_1548, zq_1549, _, rfl, rfl⟩
theorem zsL_53 : z_VL R_law 53 m_X11_trade 11 := ⟨zq_843, zq_844, zq_845, _, rfl, rfl⟩
theorem zsL_56 : z_VL R_law 56 m_X12_trade 12 := ⟨zq_1560, zq_1561, zq_1562, _, rfl, rfl⟩
theorem zsL_57 : z_VL R_law 57 m_X11_mend 11 := ⟨zq_862, zq_863, zq_864, _, rfl, rfl⟩
theorem zsL_60 : z_VL R_law 60 m_X12_mend 12 := ⟨zq_1598, zq_1599, zq_1600, _, rfl, rfl⟩
theorem zsL_61 : z_VL R_law 61 m_X11_seek 11 := ⟨zq_901, zq_902, zq_903, _, rfl, rfl⟩
theorem zsL_64 : z_VL R_law 64 m_X12_seek 12 := ⟨zq_1611, zq_1612, zq_1613, _, rfl, rfl⟩
theorem zsL_65 : z_VL R_law 65 m_X11_undo 11 := ⟨zq_936, zq_937, zq_938, _, rfl, rfl⟩
theorem zsL_68 : z_VL R_law 68 m_X12_undo 12 := ⟨zq_1474, zq_1475, zq_1476, _, rfl, rfl⟩
theorem zsL_69 : z_VL R_law 69 m_X11_keep 11 := ⟨zq_944, zq_945, zq_946, _, rfl, rfl⟩
theorem zsL_72 : z_VL R_law 72 m_X12_keep 12 := ⟨zq_1478, zq_1479, zq_1480, _, rfl, rfl⟩
theorem zsL_73 : z_VL R_law 73 m_X11_back 11 := ⟨zq_982, zq_983, zq_984, _, rfl, rfl⟩
theorem zsL_76 : z_VL R_law 76 m_X12_back 12 := ⟨zq_1486, zq_1487, zq_1488, _, rfl, rfl⟩
theorem zsL_77 : z_VL R_law 77 m_X11_face 11 := ⟨zq_987, zq_988, zq_989, _, rfl, rfl⟩
theorem zsL_80 : z_VL R_law 80 m_X12_face 12 := ⟨zq_1627, zq_1628, zq_1629, _, rfl, rfl⟩
theorem zsL_81 : z_VL R_law 81 m_X11_side 11 := ⟨zq_996, zq_997, zq_998, _, rfl, rfl⟩
theorem zsL_85 : z_VL R_law 85 m_X12_side 12 := ⟨zq_1632, zq_1633, zq_1634, _, rfl, rfl⟩
theorem zsL_86 : z_VL R_law 86 m_X11_edge 11 := ⟨zq_1000, zq_1001, zq_1002, _, rfl, rfl⟩
theorem zsL_89 : z_VL R_law 89 m_X12_edge 12 := ⟨zq_1636, zq_1637, zq_1638, _, rfl, rfl⟩
theorem zsL_90 : z_VL R_law 90 m_X11_corner 11 := ⟨zq_1012, zq_1013, zq_1014, _, rfl, rfl⟩
theorem zsL_93 : z_VL R_law 93 m_X12_corner 12 := ⟨zq_1644, zq_1645, zq_1646, _, rfl, rfl⟩
theorem zsL_94 : z_VL R_law 94 m_X11_vertex 11 := ⟨zq_1020, zq_1021, zq_1022, _, rfl, rfl⟩
theorem zsL_97 : z_VL R_law 97 m_X12_vertex 12 := ⟨zq_1648, zq_1649, zq_1650, _, rfl, rfl⟩
theorem zsL_98 : z_VL R_law 98 m_X11_place 11 := ⟨zq_1029, zq_1030, zq_1031, _, rfl, rfl⟩
theorem zsL_101 : z_VL R_law 101 m_X12_place 12 := ⟨zq_1656, zq_1657, zq_1658, _, rfl, rfl⟩
theorem zsL_102 : z_VL R_law 102 m_X11_over 11 := ⟨zq_1033, zq_1034, zq_1035, _, rfl, rfl⟩
theorem zsL_105 : z_VL R_law 105 m_X12_over 12 := ⟨zq_1660, zq_1661, zq_1662, _, rfl, rfl⟩
theorem zsL_106 : z_VL R_law 106 m_X11_box 11 := ⟨zq_1037, zq_1038, zq_1039, _, rfl, rfl⟩
theorem zsL_109 : z_VL R_law 109 m_X12_box 12 := ⟨zq_1664, zq_1665, zq_1666, _, rfl, rfl⟩
theorem zsL_110 : z_VL R_law 110 m_X11_part 11 := ⟨zq_1051, zq_1052, zq_1053, _, rfl, rfl⟩
theorem zsL_113 : z_VL R_law 113 m_X12_part 12 := ⟨zq_1668, zq_1669, zq_1670, _, rfl, rfl⟩
theorem zsL_114 : z_VL R_law 114 m_X11_way 11 := ⟨zq_1056, zq_1057, zq_1058, _, rfl, rfl⟩
theorem zsL_117 : z_VL R_law 117 m_X12_way 12 := ⟨zq_1672, zq_1673, zq_1674, _, rfl, rfl⟩
theorem zsL_118 : z_VL R_law 118 m_X11_free 11 := ⟨zq_1069, zq_1070, zq_1071, _, rfl, rfl⟩
theorem zsL_121 : z_VL R_law 121 m_X12_free 12 := ⟨zq_1676, zq_1677, zq_1678, _, rfl, rfl⟩
theorem zsL_122 : z_VL R_law 122 m_X11_rim 11 := ⟨zq_1073, zq_1074, zq_1075, _, rfl, rfl⟩
theorem zsL_125 : z_VL R_law 125 m_X12_rim 12 := ⟨zq_1680, zq_1681, zq_1682, _, rfl, rfl⟩
theorem zsL_126 : z_VL R_law 126 m_X11_gluings 11 := ⟨zq_1088, zq_1089, zq_1090, _, rfl, rfl⟩
theorem zsL_129 : z_VL R_law 129 m_X12_gluings 12 := ⟨zq_1699, zq_1700, zq_1701, _, rfl, rfl⟩
theorem zsL_130 : z_VL R_law 130 m_X11_glued 11 := ⟨zq_1131, zq_1132, zq_1133, _, rfl, rfl⟩
theorem zsL_133 : z_VL R_law 133 m_X12_glued 12 := ⟨zq_1727, zq_1728, zq_1729, _, rfl, rfl⟩
theorem zsL_134 : z_VL R_law 134 m_X11_lacks 11 := ⟨zq_1144, zq_1145, zq_1146, _, rfl, rfl⟩
theorem zsL_137 : z_VL R_law 137 m_X12_lacks 12 := ⟨zq_1735, zq_1736, zq_1737, _, rfl, rfl⟩
theorem zsL_138 : z_VL R_law 138 m_X11_itself 11 := ⟨zq_1152, zq_1153, zq_1154, _, rfl, rfl⟩
theorem zsL_141 : z_VL R_law 141 m_X12_itself 12 := ⟨zq_1739, zq_1740, zq_1741, _, rfl, rfl⟩
theorem zsL_142 : z_VL R_law 142 m_X11_outline 11 := ⟨zq_1165, zq_1166, zq_1167, _, rfl, rfl⟩
theorem zsL_146 : z_VL R_law 146 m_X12_outline 12 := ⟨zq_1747, zq_1748, zq_1749, _, rfl, rfl⟩
theorem zsL_147 : z_VL R_law 147 m_X11_alike 11 := ⟨zq_1175, zq_1176, zq_1177, _, rfl, rfl⟩
theorem zsL_150 : z_VL R_law 150 m_X12_alike 12 := ⟨zq_1775, zq_1776, zq_1777, _, rfl, rfl⟩
theorem zsL_151 : z_VL R_law 151 m_X11_best 11 := ⟨zq_1183, zq_1184, zq_1185, _, rfl, rfl⟩
theorem zsL_154 : z_VL R_law 154 m_X12_best 12 := ⟨zq_1606, zq_1607, zq_1608, _, rfl, rfl⟩
theorem zsL_155 : z_VL R_law 155 m_X11_count 11 := ⟨zq_1187, zq_1188, zq_1189, _, rfl, rfl⟩
theorem zsL_158 : z_VL R_law 158 m_X12_count 12 := ⟨zq_1779, zq_1780, zq_1781, _, rfl, rfl⟩
section ZLOOP
variable {p : Program} {l : Launch} {e : Env} {s : State} {m : MethodId} {below : List Frame} {meth : Method} {c : Code} {H : Heap} {locs : List Loc} {Z : State → Prop} {b L : Nat} {xs : Nat → Int32}
/-- what the law has at the head of its loop, behind k calls -/
def zl_at (s : State) (b k : Nat) (ad : Nat → Nat) (ls : Array Slot) : Prop := lv_has ls 4 [(0, .ref b), (1, .ref (ad 1)), (2, .ref (ad 113)), (3, .int (nI (6 * k)))]
theorem zl_arg {R : Room} {args : Array Value} {cells slots : Nat} {ls : Array Slot} {rest : List Value} {A : Nat → Prop} {ad : Nat → Nat} {k j pc : Nat} (hx : p.tables.exec = Jvm.exec) (hb : c.code = code) (hX : va_X b L xs s s.heap) (hbl : b < s.heap.size) (hbA : ¬ A b) (hS : va_S A s.heap H locs) (hl : zl_at s b k ad ls) (hL : L ≤ 1000000) (hk : 6 * k + 6 ≤ L) (hj : j ≤ 5)
    (d1 : decode code pc = .ok (.aload_n 0, 1)) (d2 : decode code (pc + 1) = .ok (.iload_n 3, 1)) (d3 : decode code (pc + 2) = .ok (.iconst (j : Int), 1)) (d4 : decode code (pc + 3) = .ok (.iadd, 1)) (d5 : decode code (pc + 4) = .ok (.iaload, 1))
    (kk : W p l e R s m args below meth c H locs cells slots Z (F0 m (pc + 5) ls (z_val ad (0, (xs (6 * k + j)).toInt) :: rest))) : W p l e R s m args below meth c H locs cells slots Z (F0 m pc ls rest) := by
  refine lv_aload_n hx hb d1 rfl (lv_at hl 0 rfl) ?_
  refine lv_iload_n hx hb d2 rfl (lv_at hl 3 rfl) ?_
  refine lv_iconst (v := nI j) hx hb d3 (z_ofN32 j) ?_
  refine lv_iadd hx hb d4 ?_
  rw [nI_add]
  refine va_sld hx hb hX hbl hbA hS (vp_in_nI (by omega) (by omega)) d5 ?_
  rw [nI_clamp (by omega)]
  have e1 : z_val ad (0, (xs (6 * k + j)).toInt) = .int (xs (6 * k + j)) := congrArg Value.int (Int32.ofInt_toInt _)
  rw [e1] at kk
  exact kk
theorem zl_xI (x : Int32) : z_I x.toInt := ⟨by have := x.le_toInt; simpa using this, by have := x.toInt_lt; simp at this; omega⟩
theorem zl_table {R : Room} {args : Array Value} {cells slots pc : Nat} {ls : Array Slot} {rest : List Value} {dflt lo1 hi : Int} {offs : Array Int} {len : Nat} {x : Int32} (hx : p.tables.exec = Jvm.exec) (hb : c.code = code) (hd : decode code pc = .ok (.tableswitch dflt lo1 hi offs, len)) (tg : List Nat) (td : Nat) (h1 : tg.length = (hi - lo1 + 1).toNat) (h2 : (List.range tg.length).all (fun i => decide ((offs[i]?).map (fun o => (pc : Int) + o) = some ((tg.getD i 0 : Nat) : Int))) = true) (h3 : (pc : Int) + dflt = (td : Int))
    (hin : ∀ i : Nat, i < tg.length → W p l e R s m args below meth c H locs cells slots Z (F0 m (tg.getD i 0) ls rest)) (hout : W p l e R s m args below meth c H locs cells slots Z (F0 m td ls rest)) : W p l e R s m args below meth c H locs cells slots Z (F0 m pc ls (.int x :: rest)) := by
  by_cases hc : x.toInt < lo1 ∨ hi < x.toInt
  · exact lv_tableOut hx hb hd hc h3 hout
  · have hi1 : (x.toInt - lo1).toNat < tg.length := by omega
    have h4 := List.all_eq_true.mp h2 _ (List.mem_range.mpr hi1)
    have h4 := of_decide_eq_true h4
    cases ho : offs[(x.toInt - lo1).toNat]? with
    | none => rw [ho] at h4; cases h4
    | some o =>
      rw [ho] at h4
      have h4 := Option.some.inj h4
      exact lv_tableIn hx hb hd (by omega) (by omega) ho h4 (hin _ hi1)
end ZLOOP
set_option maxHeartbeats 4000000 in
set_option maxRecDepth 100000 in
theorem zl_loop {N0 : Nat} {Inv : Nat → z_Mem → Prop} (hN0 : N0 ≤ 1000000) (hop : ∀ k, 6 * k + 6 ≤ N0 → op_all (Inv k) (Inv (k + 1))) (hid : ∀ k μ, Inv k μ → Inv (k + 1) μ) {p : Program} {l : Launch} {e : Env} {s : State} {m : MethodId} {below : List Frame} {meth : Method} {c : Code} {b L : Nat} {xs : Nat → Int32} (hL : L ≤ N0) (C0 : lw_At p s m meth c b L xs) {D : va_G} {cy : Nat → ClassId} {ad : Nat → Nat} (hG : z_G D cy ad (fun q => s.heap.size ≤ q) s #[Value.ref b]) :
    ∀ (n k : Nat), 6 * k ≤ L → L + 1 ≤ 6 * k + n → ∀ (μ : z_Mem) (H : Heap) (locs : List Loc) (ls : Array Slot), Inv k μ → z_ok μ z_n → z_ho D cy ad (fun q => s.heap.size ≤ q) z_n μ s H locs → zl_at s b k ad ls → W p l e room_1 s m #[Value.ref b] below meth c H locs 147 7629 (lw_Z below #[Value.ref b] s) (F0 m 18 ls []) := by
  have C1 := C0
  obtain ⟨hx, hb, hr, hml, hown, hts, hX, hbl, hlocks, hgv⟩ := C0
  have hbA : ¬ (fun q : Nat => s.heap.size ≤ q) b := Nat.not_le.mpr hbl
  have hRm : 200 + 1 ≤ room_1.frames ∧ 64 * (200 + 1) ≤ room_1.locals := by decide
  have hRc : 147 ≤ room_1.cells ∧ 7629 ≤ room_1.slots := by decide
  intro n
  induction n with
  | zero =>
    intro k h1 h2
    exact absurd h2 (by omega)
  | succ n ih =>
    intro k hk hn μ H locs ls hI hok hh hl
    have hls : ls.size = 4 := hl.1
    refine lv_iload_n hx hb dL_law_18 rfl (lv_at hl 3 rfl) ?_
    refine lv_aload_n hx hb dL_law_19 rfl (lv_at hl 0 rfl) ?_
    refine va_slen hx hb hX hbl hbA hh.2.2.1 dL_law_20 ?_
    refine lv_bipush (v := nI 6) hx hb dL_law_21 rfl ?_
    refine lv_isub hx hb dL_law_23 ?_
    have hend : ∀ (hq : Nat), W p l e room_1 s m #[Value.ref b] below meth c H locs 147 7629 (lw_Z below #[Value.ref b] s) (F0 m 1110 ls []) := fun _ => by
      refine lv_iconst (v := 1) hx hb dL_law_1110 (by decide) ?_
      refine va_forget (fun q hq => hh.2.2.1.2.2 q hq) ?_
      refine W.widen (k := 600000) (n := 7302250) (by decide) (by decide) ?_
      exact lw_ret hx hb hr hlocks dL_law_1111
    refine lv_icmp_gt (tgt := 1110) hx hb dL_law_24 (by decide) (fun _ => hend 0) (fun hc => ?_)
    have hle : 6 * k + 6 ≤ L := by
      rcases Nat.lt_or_ge L (6 * k + 6) with q | q
      · exfalso
        apply hc
        show Int32.ofNat L - nI 6 < nI (6 * k)
        have e1 : Int32.ofNat L = Int32.ofInt (L : Int) := (z_ofN32 L).symm
        have e2 : nI 6 = Int32.ofInt 6 := rfl
        rw [e1, e2, ← Int32.ofInt_sub, ← z_ofN32, z_lt32 ⟨by omega, by omega⟩ ⟨by omega, by omega⟩]
        omega
      · exact q
    refine lv_aload_n hx hb dL_law_27 rfl (lv_at hl 0 rfl) ?_
    refine lv_iload_n hx hb dL_law_28 rfl (lv_at hl 3 rfl) ?_
    refine va_sld hx hb hX hbl hbA hh.2.2.1 (vp_in_nI (by omega) (by omega)) dL_law_29 ?_
    refine lv_bipush (v := nI 63) hx hb dL_law_30 rfl ?_
    refine lv_iand hx hb dL_law_32 ?_
    have hO := hop k (by omega)
    -- on to the next
    have hnext : ∀ (μ2 : z_Mem) (H2 : Heap) (locs2 : List Loc), Inv (k + 1) μ2 → z_ok μ2 z_n → z_ho D cy ad (fun q => s.heap.size ≤ q) z_n μ2 s H2 locs2 → W p l e room_1 s m #[Value.ref b] below meth c H2 locs2 147 7629 (lw_Z below #[Value.ref b] s) (F0 m 1104 ls []) := by
      intro μ2 H2 locs2 hI2 hok2 hh2
      refine lv_iinc (v := nI (6 * (k + 1))) (lv' := [(3, .int (nI (6 * (k + 1)))), (0, .ref b), (1, .ref (ad 1)), (2, .ref (ad 113))]) hx hb dL_law_1104 hl (k := 3) rfl (by show nI (6 * k) + nI 6 = _; rw [nI_add]; rfl) (by decide) rfl (fun ls2 hl2 => ?_)
      refine lv_goto (tgt := 18) hx hb dL_law_1107 (by decide) ?_
      exact ih (k + 1) (by omega) (by omega) μ2 H2 locs2 ls2 hI2 hok2 hh2 (lv_sub hl2 [1, 2, 3, 0] rfl)
    refine zl_table hx hb dL_law_33 [188, 251, 274, 287, 310, 333, 356, 389, 402, 425, 458, 471, 484, 497, 520, 543, 576, 619, 652, 695, 728, 761, 784, 807, 830, 873, 896, 929, 942, 975, 1008, 1021, 1035, 1058, 1081] 1104 (by decide) (by decide +kernel) (by decide) (fun i hi => ?_) (hnext μ H locs (hid k μ hI) hok hh)
    match i, hi with
    | 0, _ =>
      have h1 := hO.1 μ (xs (6 * k + 1)).toInt (xs (6 * k + 2)).toInt (xs (6 * k + 3)).toInt (xs (6 * k + 4)).toInt (xs (6 * k + 5)).toInt hI hok (zl_xI _) (zl_xI _) (zl_xI _) (zl_xI _) (zl_xI _)
      show W p l e room_1 s m #[Value.ref b] below meth c H locs 147 7629 (lw_Z below #[Value.ref b] s) (F0 m 188 ls [])
      refine lv_aload_n hx hb dL_law_188 rfl (lv_at hl 1 rfl) ?_
      refine zl_arg (j := 1) hx hb hX hbl hbA hh.2.2.1 hl (by omega) hle (by decide) dL_law_189 dL_law_190 dL_law_191 dL_law_192 dL_law_193 ?_
      refine zl_arg (j := 2) hx hb hX hbl hbA hh.2.2.1 hl (by omega) hle (by decide) dL_law_194 dL_law_195 dL_law_196 dL_law_197 dL_law_198 ?_
      refine zl_arg (j := 3) hx hb hX hbl hbA hh.2.2.1 hl (by omega) hle (by decide) dL_law_199 dL_law_200 dL_law_201 dL_law_202 dL_law_203 ?_
      refine zl_arg (j := 4) hx hb hX hbl hbA hh.2.2.1 hl (by omega) hle (by decide) dL_law_204 dL_law_205 dL_law_206 dL_law_207 dL_law_208 ?_
      refine zl_arg (j := 5) hx hb hX hbl hbA hh.2.2.1 hl (by omega) hle (by decide) dL_law_209 dL_law_210 dL_law_211 dL_law_212 dL_law_213 ?_
      refine zw_call (as := [(0, (xs (6 * k + 1)).toInt), (0, (xs (6 * k + 2)).toInt), (0, (xs (6 * k + 3)).toInt), (0, (xs (6 * k + 4)).toInt), (0, (xs (6 * k + 5)).toInt)]) (o := 1) (rest := []) hx hb hown hml hls hG hh hok dL_law_214 zm_X11_feed zsL_13 ⟨by decide, by decide, k_1⟩ rfl ⟨zl_xI _, zl_xI _, zl_xI _, zl_xI _, zl_xI _, trivial⟩ (Nat.le_of_ble_eq_true rfl) (by decide) hRm hRc h1 ?_
      rintro _ μ1 H1 locs1 ⟨x, rfl, h2⟩ hv1 hh1 hok1
      refine lv_aload_n hx hb dL_law_217 rfl (lv_at hl 2 rfl) ?_
      refine zl_arg (j := 1) hx hb hX hbl hbA hh1.2.2.1 hl (by omega) hle (by decide) dL_law_218 dL_law_219 dL_law_220 dL_law_221 dL_law_222 ?_
      refine zl_arg (j := 2) hx hb hX hbl hbA hh1.2.2.1 hl (by omega) hle (by decide) dL_law_223 dL_law_224 dL_law_225 dL_law_226 dL_law_227 ?_
      refine zl_arg (j := 3) hx hb hX hbl hbA hh1.2.2.1 hl (by omega) hle (by decide) dL_law_228 dL_law_229 dL_law_230 dL_law_231 dL_law_232 ?_
      refine zl_arg (j := 4) hx hb hX hbl hbA hh1.2.2.1 hl (by omega) hle (by decide) dL_law_233 dL_law_234 dL_law_235 dL_law_236 dL_law_237 ?_
      refine zl_arg (j := 5) hx hb hX hbl hbA hh1.2.2.1 hl (by omega) hle (by decide) dL_law_238 dL_law_239 dL_law_240 dL_law_241 dL_law_242 ?_
      refine zw_call (as := [(0, (xs (6 * k + 1)).toInt), (0, (xs (6 * k + 2)).toInt), (0, (xs (6 * k + 3)).toInt), (0, (xs (6 * k + 4)).toInt), (0, (xs (6 * k + 5)).toInt)]) (o := 113) (rest := [z_val ad (0, x)]) hx hb hown hml hls hG hh1 hok1 dL_law_243 zm_X12_feed zsL_17 ⟨by decide, by decide, k_113⟩ rfl ⟨zl_xI _, zl_xI _, zl_xI _, zl_xI _, zl_xI _, trivial⟩ (Nat.le_of_ble_eq_true rfl) (Nat.le_of_ble_eq_true rfl) hRm hRc h2 ?_
      rintro _ μ2 H2 locs2 ⟨y, rfl, rfl, hI2⟩ hv2 hh2 hok2
      refine lv_icmp_eq (tgt := 1104) hx hb dL_law_246 (by decide) (fun _ => ?_) (fun q => absurd rfl q)
      exact hnext μ2 H2 locs2 hI2 hok2 hh2
    | 1, _ =>
      have h1 := hO.2.1 μ (xs (6 * k + 1)).toInt hI hok (zl_xI _)
      show W p l e room_1 s m #[Value.ref b] below meth c H locs 147 7629 (lw_Z below #[Value.ref b] s) (F0 m 251 ls [])
      refine lv_aload_n hx hb dL_law_251 rfl (lv_at hl 1 rfl) ?_
      refine zl_arg (j := 1) hx hb hX hbl hbA hh.2.2.1 hl (by omega) hle (by decide) dL_law_252 dL_law_253 dL_law_254 dL_law_255 dL_law_256 ?_
      refine zw_call (as := [(0, (xs (6 * k + 1)).toInt)]) (o := 1) (rest := []) hx hb hown hml hls hG hh hok dL_law_257 zm_X11_end zsL_18 ⟨by decide, by decide, k_1⟩ rfl ⟨zl_xI _, trivial⟩ (Nat.le_of_ble_eq_true rfl) (by decide) hRm hRc h1 ?_
      rintro _ μ1 H1 locs1 ⟨x, rfl, h2⟩ hv1 hh1 hok1
      refine lv_aload_n hx hb dL_law_260 rfl (lv_at hl 2 rfl) ?_
      refine zl_arg (j := 1) hx hb hX hbl hbA hh1.2.2.1 hl (by omega) hle (by decide) dL_law_261 dL_law_262 dL_law_263 dL_law_264 dL_law_265 ?_
      refine zw_call (as := [(0, (xs (6 * k + 1)).toInt)]) (o := 113) (rest := [z_val ad (0, x)]) hx hb hown hml hls hG hh1 hok1 dL_law_266 zm_X12_end zsL_22 ⟨by decide, by decide, k_113⟩ rfl ⟨zl_xI _, trivial⟩ (Nat.le_of_ble_eq_true rfl) (Nat.le_of_ble_eq_true rfl) hRm hRc h2 ?_
      rintro _ μ2 H2 locs2 ⟨y, rfl, rfl, hI2⟩ hv2 hh2 hok2
      refine lv_icmp_eq (tgt := 1104) hx hb dL_law_269 (by decide) (fun _ => ?_) (fun q => absurd rfl q)
      exact hnext μ2 H2 locs2 hI2 hok2 hh2
    | 2, _ =>
      have h1 := hO.2.2.1 μ hI hok
      show W p l e room_1 s m #[Value.ref b] below meth c H locs 147 7629 (lw_Z below #[Value.ref b] s) (F0 m 274 ls [])
      refine lv_aload_n hx hb dL_law_274 rfl (lv_at hl 1 rfl) ?_
      refine zw_call (as := []) (o := 1) (rest := []) hx hb hown hml hls hG hh hok dL_law_275 zm_X11_solid zsL_23 ⟨by decide, by decide, k_1⟩ rfl trivial (Nat.le_of_ble_eq_true rfl) (by decide) hRm hRc h1 ?_
      rintro _ μ1 H1 locs1 ⟨x, rfl, h2⟩ hv1 hh1 hok1
      refine lv_aload_n hx hb dL_law_278 rfl (lv_at hl 2 rfl) ?_
      refine zw_call (as := []) (o := 113) (rest := [z_val ad (0, x)]) hx hb hown hml hls hG hh1 hok1 dL_law_279 zm_X12_solid zsL_27 ⟨by decide, by decide, k_113⟩ rfl trivial (Nat.le_of_ble_eq_true rfl) (Nat.le_of_ble_eq_true rfl) hRm hRc h2 ?_
      rintro _ μ2 H2 locs2 ⟨y, rfl, rfl, hI2⟩ hv2 hh2 hok2
      refine lv_icmp_eq (tgt := 1104) hx hb dL_law_282 (by decide) (fun _ => ?_) (fun q => absurd rfl q)
      exact hnext μ2 H2 locs2 hI2 hok2 hh2
    | 3, _ =>
      have h1 := hO.2.2.2.1 μ (xs (6 * k + 1)).toInt hI hok (zl_xI _)
      show W p l e room_1 s m #[Value.ref b] below meth c H locs 147 7629 (lw_Z below #[Value.ref b] s) (F0 m 287 ls [])
      refine lv_aload_n hx hb dL_law_287 rfl (lv_at hl 1 rfl) ?_
      refine zl_arg (j := 1) hx hb hX hbl hbA hh.2.2.1 hl (by omega) hle (by decide) dL_law_288 dL_law_289 dL_law_290 dL_law_291 dL_law_292 ?_
      refine zw_call (as := [(0, (xs (6 * k + 1)).toInt)]) (o := 1) (rest := []) hx hb hown hml hls hG hh hok dL_law_293 zm_X11_hinge zsL_28 ⟨by decide, by decide, k_1⟩ rfl ⟨zl_xI _, trivial⟩ (Nat.le_of_ble_eq_true rfl) (by decide) hRm hRc h1 ?_
      rintro _ μ1 H1 locs1 ⟨x, rfl, h2⟩ hv1 hh1 hok1
      refine lv_aload_n hx hb dL_law_296 rfl (lv_at hl 2 rfl) ?_
      refine zl_arg (j := 1) hx hb hX hbl hbA hh1.2.2.1 hl (by omega) hle (by decide) dL_law_297 dL_law_298 dL_law_299 dL_law_300 dL_law_301 ?_
      refine zw_call (as := [(0, (xs (6 * k + 1)).toInt)]) (o := 113) (rest := [z_val ad (0, x)]) hx hb hown hml hls hG hh1 hok1 dL_law_302 zm_X12_hinge zsL_31 ⟨by decide, by decide, k_113⟩ rfl ⟨zl_xI _, trivial⟩ (Nat.le_of_ble_eq_true rfl) (Nat.le_of_ble_eq_true rfl) hRm hRc h2 ?_
      rintro _ μ2 H2 locs2 ⟨y, rfl, rfl, hI2⟩ hv2 hh2 hok2
      refine lv_icmp_eq (tgt := 1104) hx hb dL_law_305 (by decide) (fun _ => ?_) (fun q => absurd rfl q)
      exact hnext μ2 H2 locs2 hI2 hok2 hh2
    | 4, _ =>
      have h1 := hO.2.2.2.2.1 μ (xs (6 * k + 1)).toInt hI hok (zl_xI _)
      show W p l e room_1 s m #[Value.ref b] below meth c H locs 147 7629 (lw_Z below #[Value.ref b] s) (F0 m 310 ls [])
      refine lv_aload_n hx hb dL_law_310 rfl (lv_at hl 1 rfl) ?_
      refine zl_arg (j := 1) hx hb hX hbl hbA hh.2.2.1 hl (by omega) hle (by decide) dL_law_311 dL_law_312 dL_law_313 dL_law_314 dL_law_315 ?_
      refine zw_call (as := [(0, (xs (6 * k + 1)).toInt)]) (o := 1) (rest := []) hx hb hown hml hls hG hh hok dL_law_316 zm_X11_cut zsL_32 ⟨by decide, by decide, k_1⟩ rfl ⟨zl_xI _, trivial⟩ (Nat.le_of_ble_eq_true rfl) (by decide) hRm hRc h1 ?_
      rintro _ μ1 H1 locs1 ⟨x, rfl, h2⟩ hv1 hh1 hok1
      refine lv_aload_n hx hb dL_law_319 rfl (lv_at hl 2 rfl) ?_
      refine zl_arg (j := 1) hx hb hX hbl hbA hh1.2.2.1 hl (by omega) hle (by decide) dL_law_320 dL_law_321 dL_law_322 dL_law_323 dL_law_324 ?_
      refine zw_call (as := [(0, (xs (6 * k + 1)).toInt)]) (o := 113) (rest := [z_val ad (0, x)]) hx hb hown hml hls hG hh1 hok1 dL_law_325 zm_X12_cut zsL_35 ⟨by decide, by decide, k_113⟩ rfl ⟨zl_xI _, trivial⟩ (Nat.le_of_ble_eq_true rfl) (Nat.le_of_ble_eq_true rfl) hRm hRc h2 ?_
      rintro _ μ2 H2 locs2 ⟨y, rfl, rfl, hI2⟩ hv2 hh2 hok2
      refine lv_icmp_eq (tgt := 1104) hx hb dL_law_328 (by decide) (fun _ => ?_) (fun q => absurd rfl q)
      exact hnext μ2 H2 locs2 hI2 hok2 hh2
    | 5, _ =>
      have h1 := hO.2.2.2.2.2.1 μ (xs (6 * k + 1)).toInt hI hok (zl_xI _)
      show W p l e room_1 s m #[Value.ref b] below meth c H locs 147 7629 (lw_Z below #[Value.ref b] s) (F0 m 333 ls [])
      refine lv_aload_n hx hb dL_law_333 rfl (lv_at hl 1 rfl) ?_
      refine zl_arg (j := 1) hx hb hX hbl hbA hh.2.2.1 hl (by omega) hle (by decide) dL_law_334 dL_law_335 dL_law_336 dL_law_337 dL_law_338 ?_
      refine zw_call (as := [(0, (xs (6 * k + 1)).toInt)]) (o := 1) (rest := []) hx hb hown hml hls hG hh hok dL_law_339 zm_X11_root zsL_36 ⟨by decide, by decide, k_1⟩ rfl ⟨zl_xI _, trivial⟩ (Nat.le_of_ble_eq_true rfl) (by decide) hRm hRc h1 ?_
      rintro _ μ1 H1 locs1 ⟨x, rfl, h2⟩ hv1 hh1 hok1
      refine lv_aload_n hx hb dL_law_342 rfl (lv_at hl 2 rfl) ?_
      refine zl_arg (j := 1) hx hb hX hbl hbA hh1.2.2.1 hl (by omega) hle (by decide) dL_law_343 dL_law_344 dL_law_345 dL_law_346 dL_law_347 ?_
      refine zw_call (as := [(0, (xs (6 * k + 1)).toInt)]) (o := 113) (rest := [z_val ad (0, x)]) hx hb hown hml hls hG hh1 hok1 dL_law_348 zm_X12_root zsL_39 ⟨by decide, by decide, k_113⟩ rfl ⟨zl_xI _, trivial⟩ (Nat.le_of_ble_eq_true rfl) (Nat.le_of_ble_eq_true rfl) hRm hRc h2 ?_
      rintro _ μ2 H2 locs2 ⟨y, rfl, rfl, hI2⟩ hv2 hh2 hok2
      refine lv_icmp_eq (tgt := 1104) hx hb dL_law_351 (by decide) (fun _ => ?_) (fun q => absurd rfl q)
      exact hnext μ2 H2 locs2 hI2 hok2 hh2
    | 6, _ =>
      have h1 := hO.2.2.2.2.2.2.1 μ (xs (6 * k + 1)).toInt (xs (6 * k + 2)).toInt hI hok (zl_xI _) (zl_xI _)
      show W p l e room_1 s m #[Value.ref b] below meth c H locs 147 7629 (lw_Z below #[Value.ref b] s) (F0 m 356 ls [])
      refine lv_aload_n hx hb dL_law_356 rfl (lv_at hl 1 rfl) ?_
      refine zl_arg (j := 1) hx hb hX hbl hbA hh.2.2.1 hl (by omega) hle (by decide) dL_law_357 dL_law_358 dL_law_359 dL_law_360 dL_law_361 ?_
      refine zl_arg (j := 2) hx hb hX hbl hbA hh.2.2.1 hl (by omega) hle (by decide) dL_law_362 dL_law_363 dL_law_364 dL_law_365 dL_law_366 ?_
      refine zw_call (as := [(0, (xs (6 * k + 1)).toInt), (0, (xs (6 * k + 2)).toInt)]) (o := 1) (rest := []) hx hb hown hml hls hG hh hok dL_law_367 zm_X11_weigh zsL_40 ⟨by decide, by decide, k_1⟩ rfl ⟨zl_xI _, zl_xI _, trivial⟩ (Nat.le_of_ble_eq_true rfl) (by decide) hRm hRc h1 ?_
      rintro _ μ1 H1 locs1 ⟨x, rfl, h2⟩ hv1 hh1 hok1
      refine lv_aload_n hx hb dL_law_370 rfl (lv_at hl 2 rfl) ?_
      refine zl_arg (j := 1) hx hb hX hbl hbA hh1.2.2.1 hl (by omega) hle (by decide) dL_law_371 dL_law_372 dL_law_373 dL_law_374 dL_law_375 ?_
      refine zl_arg (j := 2) hx hb hX hbl hbA hh1.2.2.1 hl (by omega) hle (by decide) dL_law_376 dL_law_377 dL_law_378 dL_law_379 dL_law_380 ?_
      refine zw_call (as := [(0, (xs (6 * k + 1)).toInt), (0, (xs (6 * k + 2)).toInt)]) (o := 113) (rest := [z_val ad (0, x)]) hx hb hown hml hls hG hh1 hok1 dL_law_381 zm_X12_weigh zsL_44 ⟨by decide, by decide, k_113⟩ rfl ⟨zl_xI _, zl_xI _, trivial⟩ (Nat.le_of_ble_eq_true rfl) (Nat.le_of_ble_eq_true rfl) hRm hRc h2 ?_
      rintro _ μ2 H2 locs2 ⟨y, rfl, rfl, hI2⟩ hv2 hh2 hok2
      refine lv_icmp_eq (tgt := 1104) hx hb dL_law_384 (by decide) (fun _ => ?_) (fun q => absurd rfl q)
      exact hnext μ2 H2 locs2 hI2 hok2 hh2
    | 7, _ =>
      have h1 := hO.2.2.2.2.2.2.2.1 μ hI hok
      show W p l e room_1 s m #[Value.ref b] below meth c H locs 147 7629 (lw_Z below #[Value.ref b] s) (F0 m 389 ls [])
      refine lv_aload_n hx hb dL_law_389 rfl (lv_at hl 1 rfl) ?_
      refine zw_call (as := []) (o := 1) (rest := []) hx hb hown hml hls hG hh hok dL_law_390 zm_X11_span zsL_45 ⟨by decide, by decide, k_1⟩ rfl trivial (Nat.le_of_ble_eq_true rfl) (by decide) hRm hRc h1 ?_
      rintro _ μ1 H1 locs1 ⟨x, rfl, h2⟩ hv1 hh1 hok1
      refine lv_aload_n hx hb dL_law_393 rfl (lv_at hl 2 rfl) ?_
      refine zw_call (as := []) (o := 113) (rest := [z_val ad (0, x)]) hx hb hown hml hls hG hh1 hok1 dL_law_394 zm_X12_span zsL_48 ⟨by decide, by decide, k_113⟩ rfl trivial (Nat.le_of_ble_eq_true rfl) (Nat.le_of_ble_eq_true rfl) hRm hRc h2 ?_
      rintro _ μ2 H2 locs2 ⟨y, rfl, rfl, hI2⟩ hv2 hh2 hok2
      refine lv_icmp_eq (tgt := 1104) hx hb dL_law_397 (by decide) (fun _ => ?_) (fun q => absurd rfl q)
      exact hnext μ2 H2 locs2 hI2 hok2 hh2
    | 8, _ =>
      have h1 := hO.2.2.2.2.2.2.2.2.1 μ (xs (6 * k + 1)).toInt hI hok (zl_xI _)
      show W p l e room_1 s m #[Value.ref b] below meth c H locs 147 7629 (lw_Z below #[Value.ref b] s) (F0 m 402 ls [])
      refine lv_aload_n hx hb dL_law_402 rfl (lv_at hl 1 rfl) ?_
      refine zl_arg (j := 1) hx hb hX hbl hbA hh.2.2.1 hl (by omega) hle (by decide) dL_law_403 dL_law_404 dL_law_405 dL_law_406 dL_law_407 ?_
      refine zw_call (as := [(0, (xs (6 * k + 1)).toInt)]) (o := 1) (rest := []) hx hb hown hml hls hG hh hok dL_law_408 zm_X11_tree zsL_49 ⟨by decide, by decide, k_1⟩ rfl ⟨zl_xI _, trivial⟩ (Nat.le_of_ble_eq_true rfl) (by decide) hRm hRc h1 ?_
      rintro _ μ1 H1 locs1 ⟨x, rfl, h2⟩ hv1 hh1 hok1
      refine lv_aload_n hx hb dL_law_411 rfl (lv_at hl 2 rfl) ?_
      refine zl_arg (j := 1) hx hb hX hbl hbA hh1.2.2.1 hl (by omega) hle (by decide) dL_law_412 dL_law_413 dL_law_414 dL_law_415 dL_law_416 ?_
      refine zw_call (as := [(0, (xs (6 * k + 1)).toInt)]) (o := 113) (rest := [z_val ad (0, x)]) hx hb hown hml hls hG hh1 hok1 dL_law_417 zm_X12_tree zsL_52 ⟨by decide, by decide, k_113⟩ rfl ⟨zl_xI _, trivial⟩ (Nat.le_of_ble_eq_true rfl) (Nat.le_of_ble_eq_true rfl) hRm hRc h2 ?_
      rintro _ μ2 H2 locs2 ⟨y, rfl, rfl, hI2⟩ hv2 hh2 hok2
      refine lv_icmp_eq (tgt := 1104) hx hb dL_law_420 (by decide) (fun _ => ?_) (fun q => absurd rfl q)
      exact hnext μ2 H2 locs2 hI2 hok2 hh2
    | 9, _ =>
      have h1 := hO.2.2.2.2.2.2.2.2.2.1 μ (xs (6 * k + 1)).toInt (xs (6 * k + 2)).toInt hI hok (zl_xI _) (zl_xI _)
      show W p l e room_1 s m #[Value.ref b] below meth c H locs 147 7629 (lw_Z below #[Value.ref b] s) (F0 m 425 ls [])
      refine lv_aload_n hx hb dL_law_425 rfl (lv_at hl 1 rfl) ?_
      refine zl_arg (j := 1) hx hb hX hbl hbA hh.2.2.1 hl (by omega) hle (by decide) dL_law_426 dL_law_427 dL_law_428 dL_law_429 dL_law_430 ?_
      refine zl_arg (j := 2) hx hb hX hbl hbA hh.2.2.1 hl (by omega) hle (by decide) dL_law_431 dL_law_432 dL_law_433 dL_law_434 dL_law_435 ?_
      refine zw_call (as := [(0, (xs (6 * k + 1)).toInt), (0, (xs (6 * k + 2)).toInt)]) (o := 1) (rest := []) hx hb hown hml hls hG hh hok dL_law_436 zm_X11_trade zsL_53 ⟨by decide, by decide, k_1⟩ rfl ⟨zl_xI _, zl_xI _, trivial⟩ (Nat.le_of_ble_eq_true rfl) (by decide) hRm hRc h1 ?_
      rintro _ μ1 H1 locs1 ⟨x, rfl, h2⟩ hv1 hh1 hok1
      refine lv_aload_n hx hb dL_law_439 rfl (lv_at hl 2 rfl) ?_
      refine zl_arg (j := 1) hx hb hX hbl hbA hh1.2.2.1 hl (by omega) hle (by decide) dL_law_440 dL_law_441 dL_law_442 dL_law_443 dL_law_444 ?_
      refine zl_arg (j := 2) hx hb hX hbl hbA hh1.2.2.1 hl (by omega) hle (by decide) dL_law_445 dL_law_446 dL_law_447 dL_law_448 dL_law_449 ?_
      refine zw_call (as := [(0, (xs (6 * k + 1)).toInt), (0, (xs (6 * k + 2)).toInt)]) (o := 113) (rest := [z_val ad (0, x)]) hx hb hown hml hls hG hh1 hok1 dL_law_450 zm_X12_trade zsL_56 ⟨by decide, by decide, k_113⟩ rfl ⟨zl_xI _, zl_xI _, trivial⟩ (Nat.le_of_ble_eq_true rfl) (Nat.le_of_ble_eq_true rfl) hRm hRc h2 ?_
      rintro _ μ2 H2 locs2 ⟨y, rfl, rfl, hI2⟩ hv2 hh2 hok2
      refine lv_icmp_eq (tgt := 1104) hx hb dL_law_453 (by decide) (fun _ => ?_) (fun q => absurd rfl q)
      exact hnext μ2 H2 locs2 hI2 hok2 hh2
    | 10, _ =>
      have h1 := hO.2.2.2.2.2.2.2.2.2.2.1 μ hI hok
      show W p l e room_1 s m #[Value.ref b] below meth c H locs 147 7629 (lw_Z below #[Value.ref b] s) (F0 m 458 ls [])
      refine lv_aload_n hx hb dL_law_458 rfl (lv_at hl 1 rfl) ?_
      refine zw_call (as := []) (o := 1) (rest := []) hx hb hown hml hls hG hh hok dL_law_459 zm_X11_mend zsL_57 ⟨by decide, by decide, k_1⟩ rfl trivial (Nat.le_of_ble_eq_true rfl) (by decide) hRm hRc h1 ?_
      rintro _ μ1 H1 locs1 ⟨x, rfl, h2⟩ hv1 hh1 hok1
      refine lv_aload_n hx hb dL_law_462 rfl (lv_at hl 2 rfl) ?_
      refine zw_call (as := []) (o := 113) (rest := [z_val ad (0, x)]) hx hb hown hml hls hG hh1 hok1 dL_law_463 zm_X12_mend zsL_60 ⟨by decide, by decide, k_113⟩ rfl trivial (Nat.le_of_ble_eq_true rfl) (Nat.le_of_ble_eq_true rfl) hRm hRc h2 ?_
      rintro _ μ2 H2 locs2 ⟨y, rfl, rfl, hI2⟩ hv2 hh2 hok2
      refine lv_icmp_eq (tgt := 1104) hx hb dL_law_466 (by decide) (fun _ => ?_) (fun q => absurd rfl q)
      exact hnext μ2 H2 locs2 hI2 hok2 hh2
    | 11, _ =>
      have h1 := hO.2.2.2.2.2.2.2.2.2.2.2.1 μ hI hok
      show W p l e room_1 s m #[Value.ref b] below meth c H locs 147 7629 (lw_Z below #[Value.ref b] s) (F0 m 471 ls [])
      refine lv_aload_n hx hb dL_law_471 rfl (lv_at hl 1 rfl) ?_
      refine zw_call (as := []) (o := 1) (rest := []) hx hb hown hml hls hG hh hok dL_law_472 zm_X11_seek zsL_61 ⟨by decide, by decide, k_1⟩ rfl trivial (Nat.le_of_ble_eq_true rfl) (by decide) hRm hRc h1 ?_
      rintro _ μ1 H1 locs1 ⟨x, rfl, h2⟩ hv1 hh1 hok1
      refine lv_aload_n hx hb dL_law_475 rfl (lv_at hl 2 rfl) ?_
      refine zw_call (as := []) (o := 113) (rest := [z_val ad (0, x)]) hx hb hown hml hls hG hh1 hok1 dL_law_476 zm_X12_seek zsL_64 ⟨by decide, by decide, k_113⟩ rfl trivial (Nat.le_of_ble_eq_true rfl) (Nat.le_of_ble_eq_true rfl) hRm hRc h2 ?_
      rintro _ μ2 H2 locs2 ⟨y, rfl, rfl, hI2⟩ hv2 hh2 hok2
      refine lv_icmp_eq (tgt := 1104) hx hb dL_law_479 (by decide) (fun _ => ?_) (fun q => absurd rfl q)
      exact hnext μ2 H2 locs2 hI2 hok2 hh2
    | 12, _ =>
      have h1 := hO.2.2.2.2.2.2.2.2.2.2.2.2.1 μ hI hok
      show W p l e room_1 s m #[Value.ref b] below meth c H locs 147 7629 (lw_Z below #[Value.ref b] s) (F0 m 484 ls [])
      refine lv_aload_n hx hb dL_law_484 rfl (lv_at hl 1 rfl) ?_
      refine zw_call (as := []) (o := 1) (rest := []) hx hb hown hml hls hG hh hok dL_law_485 zm_X11_undo zsL_65 ⟨by decide, by decide, k_1⟩ rfl trivial (Nat.le_of_ble_eq_true rfl) (by decide) hRm hRc h1 ?_
      rintro _ μ1 H1 locs1 ⟨x, rfl, h2⟩ hv1 hh1 hok1
      refine lv_aload_n hx hb dL_law_488 rfl (lv_at hl 2 rfl) ?_
      refine zw_call (as := []) (o := 113) (rest := [z_val ad (0, x)]) hx hb hown hml hls hG hh1 hok1 dL_law_489 zm_X12_undo zsL_68 ⟨by decide, by decide, k_113⟩ rfl trivial (Nat.le_of_ble_eq_true rfl) (Nat.le_of_ble_eq_true rfl) hRm hRc h2 ?_
      rintro _ μ2 H2 locs2 ⟨y, rfl, rfl, hI2⟩ hv2 hh2 hok2
      refine lv_icmp_eq (tgt := 1104) hx hb dL_law_492 (by decide) (fun _ => ?_) (fun q => absurd rfl q)
      exact hnext μ2 H2 locs2 hI2 hok2 hh2
    | 13, _ =>
      have h1 := hO.2.2.2.2.2.2.2.2.2.2.2.2.2.1 μ (xs (6 * k + 1)).toInt hI hok (zl_xI _)
      show W p l e room_1 s m #[Value.ref b] below meth c H locs 147 7629 (lw_Z below #[Value.ref b] s) (F0 m 497 ls [])
      refine lv_aload_n hx hb dL_law_497 rfl (lv_at hl 1 rfl) ?_
      refine zl_arg (j := 1) hx hb hX hbl hbA hh.2.2.1 hl (by omega) hle (by decide) dL_law_498 dL_law_499 dL_law_500 dL_law_501 dL_law_502 ?_
      refine zw_call (as := [(0, (xs (6 * k + 1)).toInt)]) (o := 1) (rest := []) hx hb hown hml hls hG hh hok dL_law_503 zm_X11_keep zsL_69 ⟨by decide, by decide, k_1⟩ rfl ⟨zl_xI _, trivial⟩ (Nat.le_of_ble_eq_true rfl) (by decide) hRm hRc h1 ?_
      rintro _ μ1 H1 locs1 ⟨x, rfl, h2⟩ hv1 hh1 hok1
      refine lv_aload_n hx hb dL_law_506 rfl (lv_at hl 2 rfl) ?_
      refine zl_arg (j := 1) hx hb hX hbl hbA hh1.2.2.1 hl (by omega) hle (by decide) dL_law_507 dL_law_508 dL_law_509 dL_law_510 dL_law_511 ?_
      refine zw_call (as := [(0, (xs (6 * k + 1)).toInt)]) (o := 113) (rest := [z_val ad (0, x)]) hx hb hown hml hls hG hh1 hok1 dL_law_512 zm_X12_keep zsL_72 ⟨by decide, by decide, k_113⟩ rfl ⟨zl_xI _, trivial⟩ (Nat.le_of_ble_eq_true rfl) (Nat.le_of_ble_eq_true rfl) hRm hRc h2 ?_
      rintro _ μ2 H2 locs2 ⟨y, rfl, rfl, hI2⟩ hv2 hh2 hok2
      refine lv_icmp_eq (tgt := 1104) hx hb dL_law_515 (by decide) (fun _ => ?_) (fun q => absurd rfl q)
      exact hnext μ2 H2 locs2 hI2 hok2 hh2
    | 14, _ =>
      have h1 := hO.2.2.2.2.2.2.2.2.2.2.2.2.2.2.1 μ (xs (6 * k + 1)).toInt hI hok (zl_xI _)
      show W p l e room_1 s m #[Value.ref b] below meth c H locs 147 7629 (lw_Z below #[Value.ref b] s) (F0 m 520 ls [])
      refine lv_aload_n hx hb dL_law_520 rfl (lv_at hl 1 rfl) ?_
      refine zl_arg (j := 1) hx hb hX hbl hbA hh.2.2.1 hl (by omega) hle (by decide) dL_law_521 dL_law_522 dL_law_523 dL_law_524 dL_law_525 ?_
      refine zw_call (as := [(0, (xs (6 * k + 1)).toInt)]) (o := 1) (rest := []) hx hb hown hml hls hG hh hok dL_law_526 zm_X11_back zsL_73 ⟨by decide, by decide, k_1⟩ rfl ⟨zl_xI _, trivial⟩ (Nat.le_of_ble_eq_true rfl) (by decide) hRm hRc h1 ?_
      rintro _ μ1 H1 locs1 ⟨x, rfl, h2⟩ hv1 hh1 hok1
      refine lv_aload_n hx hb dL_law_529 rfl (lv_at hl 2 rfl) ?_
      refine zl_arg (j := 1) hx hb hX hbl hbA hh1.2.2.1 hl (by omega) hle (by decide) dL_law_530 dL_law_531 dL_law_532 dL_law_533 dL_law_534 ?_
      refine zw_call (as := [(0, (xs (6 * k + 1)).toInt)]) (o := 113) (rest := [z_val ad (0, x)]) hx hb hown hml hls hG hh1 hok1 dL_law_535 zm_X12_back zsL_76 ⟨by decide, by decide, k_113⟩ rfl ⟨zl_xI _, trivial⟩ (Nat.le_of_ble_eq_true rfl) (Nat.le_of_ble_eq_true rfl) hRm hRc h2 ?_
      rintro _ μ2 H2 locs2 ⟨y, rfl, rfl, hI2⟩ hv2 hh2 hok2
      refine lv_icmp_eq (tgt := 1104) hx hb dL_law_538 (by decide) (fun _ => ?_) (fun q => absurd rfl q)
      exact hnext μ2 H2 locs2 hI2 hok2 hh2
    | 15, _ =>
      have h1 := hO.2.2.2.2.2.2.2.2.2.2.2.2.2.2.2.1 μ (xs (6 * k + 1)).toInt (xs (6 * k + 2)).toInt hI hok (zl_xI _) (zl_xI _)
      show W p l e room_1 s m #[Value.ref b] below meth c H locs 147 7629 (lw_Z below #[Value.ref b] s) (F0 m 543 ls [])
      refine lv_aload_n hx hb dL_law_543 rfl (lv_at hl 1 rfl) ?_
      refine zl_arg (j := 1) hx hb hX hbl hbA hh.2.2.1 hl (by omega) hle (by decide) dL_law_544 dL_law_545 dL_law_546 dL_law_547 dL_law_548 ?_
      refine zl_arg (j := 2) hx hb hX hbl hbA hh.2.2.1 hl (by omega) hle (by decide) dL_law_549 dL_law_550 dL_law_551 dL_law_552 dL_law_553 ?_
      refine zw_call (as := [(0, (xs (6 * k + 1)).toInt), (0, (xs (6 * k + 2)).toInt)]) (o := 1) (rest := []) hx hb hown hml hls hG hh hok dL_law_554 zm_X11_face zsL_77 ⟨by decide, by decide, k_1⟩ rfl ⟨zl_xI _, zl_xI _, trivial⟩ (Nat.le_of_ble_eq_true rfl) (by decide) hRm hRc h1 ?_
      rintro _ μ1 H1 locs1 ⟨x, rfl, h2⟩ hv1 hh1 hok1
      refine lv_aload_n hx hb dL_law_557 rfl (lv_at hl 2 rfl) ?_
      refine zl_arg (j := 1) hx hb hX hbl hbA hh1.2.2.1 hl (by omega) hle (by decide) dL_law_558 dL_law_559 dL_law_560 dL_law_561 dL_law_562 ?_
      refine zl_arg (j := 2) hx hb hX hbl hbA hh1.2.2.1 hl (by omega) hle (by decide) dL_law_563 dL_law_564 dL_law_565 dL_law_566 dL_law_567 ?_
      refine zw_call (as := [(0, (xs (6 * k + 1)).toInt), (0, (xs (6 * k + 2)).toInt)]) (o := 113) (rest := [z_val ad (0, x)]) hx hb hown hml hls hG hh1 hok1 dL_law_568 zm_X12_face zsL_80 ⟨by decide, by decide, k_113⟩ rfl ⟨zl_xI _, zl_xI _, trivial⟩ (Nat.le_of_ble_eq_true rfl) (Nat.le_of_ble_eq_true rfl) hRm hRc h2 ?_
      rintro _ μ2 H2 locs2 ⟨y, rfl, rfl, hI2⟩ hv2 hh2 hok2
      refine lv_icmp_eq (tgt := 1104) hx hb dL_law_571 (by decide) (fun _ => ?_) (fun q => absurd rfl q)
      exact hnext μ2 H2 locs2 hI2 hok2 hh2
    | 16, _ =>
      have h1 := hO.2.2.2.2.2.2.2.2.2.2.2.2.2.2.2.2.1 μ (xs (6 * k + 1)).toInt (xs (6 * k + 2)).toInt (xs (6 * k + 3)).toInt hI hok (zl_xI _) (zl_xI _) (zl_xI _)
      show W p l e room_1 s m #[Value.ref b] below meth c H locs 147 7629 (lw_Z below #[Value.ref b] s) (F0 m 576 ls [])
      refine lv_aload_n hx hb dL_law_576 rfl (lv_at hl 1 rfl) ?_
      refine zl_arg (j := 1) hx hb hX hbl hbA hh.2.2.1 hl (by omega) hle (by decide) dL_law_577 dL_law_578 dL_law_579 dL_law_580 dL_law_581 ?_
      refine zl_arg (j := 2) hx hb hX hbl hbA hh.2.2.1 hl (by omega) hle (by decide) dL_law_582 dL_law_583 dL_law_584 dL_law_585 dL_law_586 ?_
      refine zl_arg (j := 3) hx hb hX hbl hbA hh.2.2.1 hl (by omega) hle (by decide) dL_law_587 dL_law_588 dL_law_589 dL_law_590 dL_law_591 ?_
      refine zw_call (as := [(0, (xs (6 * k + 1)).toInt), (0, (xs (6 * k + 2)).toInt), (0, (xs (6 * k + 3)).toInt)]) (o := 1) (rest := []) hx hb hown hml hls hG hh hok dL_law_592 zm_X11_side zsL_81 ⟨by decide, by decide, k_1⟩ rfl ⟨zl_xI _, zl_xI _, zl_xI _, trivial⟩ (Nat.le_of_ble_eq_true rfl) (by decide) hRm hRc h1 ?_
      rintro _ μ1 H1 locs1 ⟨x, rfl, h2⟩ hv1 hh1 hok1
      refine lv_aload_n hx hb dL_law_595 rfl (lv_at hl 2 rfl) ?_
      refine zl_arg (j := 1) hx hb hX hbl hbA hh1.2.2.1 hl (by omega) hle (by decide) dL_law_596 dL_law_597 dL_law_598 dL_law_599 dL_law_600 ?_
      refine zl_arg (j := 2) hx hb hX hbl hbA hh1.2.2.1 hl (by omega) hle (by decide) dL_law_601 dL_law_602 dL_law_603 dL_law_604 dL_law_605 ?_
      refine zl_arg (j := 3) hx hb hX hbl hbA hh1.2.2.1 hl (by omega) hle (by decide) dL_law_606 dL_law_607 dL_law_608 dL_law_609 dL_law_610 ?_
      refine zw_call (as := [(0, (xs (6 * k + 1)).toInt), (0, (xs (6 * k + 2)).toInt), (0, (xs (6 * k + 3)).toInt)]) (o := 113) (rest := [z_val ad (0, x)]) hx hb hown hml hls hG hh1 hok1 dL_law_611 zm_X12_side zsL_85 ⟨by decide, by decide, k_113⟩ rfl ⟨zl_xI _, zl_xI _, zl_xI _, trivial⟩ (Nat.le_of_ble_eq_true rfl) (Nat.le_of_ble_eq_true rfl) hRm hRc h2 ?_
      rintro _ μ2 H2 locs2 ⟨y, rfl, rfl, hI2⟩ hv2 hh2 hok2
      refine lv_icmp_eq (tgt := 1104) hx hb dL_law_614 (by decide) (fun _ => ?_) (fun q => absurd rfl q)
      exact hnext μ2 H2 locs2 hI2 hok2 hh2
    | 17, _ =>
      have h1 := hO.2.2.2.2.2.2.2.2.2.2.2.2.2.2.2.2.2.1 μ (xs (6 * k + 1)).toInt (xs (6 * k + 2)).toInt hI hok (zl_xI _) (zl_xI _)
      show W p l e room_1 s m #[Value.ref b] below meth c H locs 147 7629 (lw_Z below #[Value.ref b] s) (F0 m 619 ls [])
      refine lv_aload_n hx hb dL_law_619 rfl (lv_at hl 1 rfl) ?_
      refine zl_arg (j := 1) hx hb hX hbl hbA hh.2.2.1 hl (by omega) hle (by decide) dL_law_620 dL_law_621 dL_law_622 dL_law_623 dL_law_624 ?_
      refine zl_arg (j := 2) hx hb hX hbl hbA hh.2.2.1 hl (by omega) hle (by decide) dL_law_625 dL_law_626 dL_law_627 dL_law_628 dL_law_629 ?_
      refine zw_call (as := [(0, (xs (6 * k + 1)).toInt), (0, (xs (6 * k + 2)).toInt)]) (o := 1) (rest := []) hx hb hown hml hls hG hh hok dL_law_630 zm_X11_edge zsL_86 ⟨by decide, by decide, k_1⟩ rfl ⟨zl_xI _, zl_xI _, trivial⟩ (Nat.le_of_ble_eq_true rfl) (by decide) hRm hRc h1 ?_
      rintro _ μ1 H1 locs1 ⟨x, rfl, h2⟩ hv1 hh1 hok1
      refine lv_aload_n hx hb dL_law_633 rfl (lv_at hl 2 rfl) ?_
      refine zl_arg (j := 1) hx hb hX hbl hbA hh1.2.2.1 hl (by omega) hle (by decide) dL_law_634 dL_law_635 dL_law_636 dL_law_637 dL_law_638 ?_
      refine zl_arg (j := 2) hx hb hX hbl hbA hh1.2.2.1 hl (by omega) hle (by decide) dL_law_639 dL_law_640 dL_law_641 dL_law_642 dL_law_643 ?_
      refine zw_call (as := [(0, (xs (6 * k + 1)).toInt), (0, (xs (6 * k + 2)).toInt)]) (o := 113) (rest := [z_val ad (0, x)]) hx hb hown hml hls hG hh1 hok1 dL_law_644 zm_X12_edge zsL_89 ⟨by decide, by decide, k_113⟩ rfl ⟨zl_xI _, zl_xI _, trivial⟩ (Nat.le_of_ble_eq_true rfl) (Nat.le_of_ble_eq_true rfl) hRm hRc h2 ?_
      rintro _ μ2 H2 locs2 ⟨y, rfl, rfl, hI2⟩ hv2 hh2 hok2
      refine lv_icmp_eq (tgt := 1104) hx hb dL_law_647 (by decide) (fun _ => ?_) (fun q => absurd rfl q)
      exact hnext μ2 H2 locs2 hI2 hok2 hh2
    | 18, _ =>
      have h1 := hO.2.2.2.2.2.2.2.2.2.2.2.2.2.2.2.2.2.2.1 μ (xs (6 * k + 1)).toInt (xs (6 * k + 2)).toInt (xs (6 * k + 3)).toInt hI hok (zl_xI _) (zl_xI _) (zl_xI _)
      show W p l e room_1 s m #[Value.ref b] below meth c H locs 147 7629 (lw_Z below #[Value.ref b] s) (F0 m 652 ls [])
      refine lv_aload_n hx hb dL_law_652 rfl (lv_at hl 1 rfl) ?_
      refine zl_arg (j := 1) hx hb hX hbl hbA hh.2.2.1 hl (by omega) hle (by decide) dL_law_653 dL_law_654 dL_law_655 dL_law_656 dL_law_657 ?_
      refine zl_arg (j := 2) hx hb hX hbl hbA hh.2.2.1 hl (by omega) hle (by decide) dL_law_658 dL_law_659 dL_law_660 dL_law_661 dL_law_662 ?_
      refine zl_arg (j := 3) hx hb hX hbl hbA hh.2.2.1 hl (by omega) hle (by decide) dL_law_663 dL_law_664 dL_law_665 dL_law_666 dL_law_667 ?_
      refine zw_call (as := [(0, (xs (6 * k + 1)).toInt), (0, (xs (6 * k + 2)).toInt), (0, (xs (6 * k + 3)).toInt)]) (o := 1) (rest := []) hx hb hown hml hls hG hh hok dL_law_668 zm_X11_corner zsL_90 ⟨by decide, by decide, k_1⟩ rfl ⟨zl_xI _, zl_xI _, zl_xI _, trivial⟩ (Nat.le_of_ble_eq_true rfl) (by decide) hRm hRc h1 ?_
      rintro _ μ1 H1 locs1 ⟨x, rfl, h2⟩ hv1 hh1 hok1
      refine lv_aload_n hx hb dL_law_671 rfl (lv_at hl 2 rfl) ?_
      refine zl_arg (j := 1) hx hb hX hbl hbA hh1.2.2.1 hl (by omega) hle (by decide) dL_law_672 dL_law_673 dL_law_674 dL_law_675 dL_law_676 ?_
      refine zl_arg (j := 2) hx hb hX hbl hbA hh1.2.2.1 hl (by omega) hle (by decide) dL_law_677 dL_law_678 dL_law_679 dL_law_680 dL_law_681 ?_
      refine zl_arg (j := 3) hx hb hX hbl hbA hh1.2.2.1 hl (by omega) hle (by decide) dL_law_682 dL_law_683 dL_law_684 dL_law_685 dL_law_686 ?_
      refine zw_call (as := [(0, (xs (6 * k + 1)).toInt), (0, (xs (6 * k + 2)).toInt), (0, (xs (6 * k + 3)).toInt)]) (o := 113) (rest := [z_val ad (0, x)]) hx hb hown hml hls hG hh1 hok1 dL_law_687 zm_X12_corner zsL_93 ⟨by decide, by decide, k_113⟩ rfl ⟨zl_xI _, zl_xI _, zl_xI _, trivial⟩ (Nat.le_of_ble_eq_true rfl) (Nat.le_of_ble_eq_true rfl) hRm hRc h2 ?_
      rintro _ μ2 H2 locs2 ⟨y, rfl, rfl, hI2⟩ hv2 hh2 hok2
      refine lv_icmp_eq (tgt := 1104) hx hb dL_law_690 (by decide) (fun _ => ?_) (fun q => absurd rfl q)
      exact hnext μ2 H2 locs2 hI2 hok2 hh2
    | 19, _ =>
      have h1 := hO.2.2.2.2.2.2.2.2.2.2.2.2.2.2.2.2.2.2.2.1 μ (xs (6 * k + 1)).toInt (xs (6 * k + 2)).toInt hI hok (zl_xI _) (zl_xI _)
      show W p l e room_1 s m #[Value.ref b] below meth c H locs 147 7629 (lw_Z below #[Value.ref b] s) (F0 m 695 ls [])
      refine lv_aload_n hx hb dL_law_695 rfl (lv_at hl 1 rfl) ?_
      refine zl_arg (j := 1) hx hb hX hbl hbA hh.2.2.1 hl (by omega) hle (by decide) dL_law_696 dL_law_697 dL_law_698 dL_law_699 dL_law_700 ?_
      refine zl_arg (j := 2) hx hb hX hbl hbA hh.2.2.1 hl (by omega) hle (by decide) dL_law_701 dL_law_702 dL_law_703 dL_law_704 dL_law_705 ?_
      refine zw_call (as := [(0, (xs (6 * k + 1)).toInt), (0, (xs (6 * k + 2)).toInt)]) (o := 1) (rest := []) hx hb hown hml hls hG hh hok dL_law_706 zm_X11_vertex zsL_94 ⟨by decide, by decide, k_1⟩ rfl ⟨zl_xI _, zl_xI _, trivial⟩ (Nat.le_of_ble_eq_true rfl) (by decide) hRm hRc h1 ?_
      rintro _ μ1 H1 locs1 ⟨x, rfl, h2⟩ hv1 hh1 hok1
      refine lv_aload_n hx hb dL_law_709 rfl (lv_at hl 2 rfl) ?_
      refine zl_arg (j := 1) hx hb hX hbl hbA hh1.2.2.1 hl (by omega) hle (by decide) dL_law_710 dL_law_711 dL_law_712 dL_law_713 dL_law_714 ?_
      refine zl_arg (j := 2) hx hb hX hbl hbA hh1.2.2.1 hl (by omega) hle (by decide) dL_law_715 dL_law_716 dL_law_717 dL_law_718 dL_law_719 ?_
      refine zw_call (as := [(0, (xs (6 * k + 1)).toInt), (0, (xs (6 * k + 2)).toInt)]) (o := 113) (rest := [z_val ad (0, x)]) hx hb hown hml hls hG hh1 hok1 dL_law_720 zm_X12_vertex zsL_97 ⟨by decide, by decide, k_113⟩ rfl ⟨zl_xI _, zl_xI _, trivial⟩ (Nat.le_of_ble_eq_true rfl) (Nat.le_of_ble_eq_true rfl) hRm hRc h2 ?_
      rintro _ μ2 H2 locs2 ⟨y, rfl, rfl, hI2⟩ hv2 hh2 hok2
      refine lv_icmp_eq (tgt := 1104) hx hb dL_law_723 (by decide) (fun _ => ?_) (fun q => absurd rfl q)
      exact hnext μ2 H2 locs2 hI2 hok2 hh2
    | 20, _ =>
      have h1 := hO.2.2.2.2.2.2.2.2.2.2.2.2.2.2.2.2.2.2.2.2.1 μ (xs (6 * k + 1)).toInt (xs (6 * k + 2)).toInt hI hok (zl_xI _) (zl_xI _)
      show W p l e room_1 s m #[Value.ref b] below meth c H locs 147 7629 (lw_Z below #[Value.ref b] s) (F0 m 728 ls [])
      refine lv_aload_n hx hb dL_law_728 rfl (lv_at hl 1 rfl) ?_
      refine zl_arg (j := 1) hx hb hX hbl hbA hh.2.2.1 hl (by omega) hle (by decide) dL_law_729 dL_law_730 dL_law_731 dL_law_732 dL_law_733 ?_
      refine zl_arg (j := 2) hx hb hX hbl hbA hh.2.2.1 hl (by omega) hle (by decide) dL_law_734 dL_law_735 dL_law_736 dL_law_737 dL_law_738 ?_
      refine zw_call (as := [(0, (xs (6 * k + 1)).toInt), (0, (xs (6 * k + 2)).toInt)]) (o := 1) (rest := []) hx hb hown hml hls hG hh hok dL_law_739 zm_X11_place zsL_98 ⟨by decide, by decide, k_1⟩ rfl ⟨zl_xI _, zl_xI _, trivial⟩ (Nat.le_of_ble_eq_true rfl) (by decide) hRm hRc h1 ?_
      rintro _ μ1 H1 locs1 ⟨x, rfl, h2⟩ hv1 hh1 hok1
      refine lv_aload_n hx hb dL_law_742 rfl (lv_at hl 2 rfl) ?_
      refine zl_arg (j := 1) hx hb hX hbl hbA hh1.2.2.1 hl (by omega) hle (by decide) dL_law_743 dL_law_744 dL_law_745 dL_law_746 dL_law_747 ?_
      refine zl_arg (j := 2) hx hb hX hbl hbA hh1.2.2.1 hl (by omega) hle (by decide) dL_law_748 dL_law_749 dL_law_750 dL_law_751 dL_law_752 ?_
      refine zw_call (as := [(0, (xs (6 * k + 1)).toInt), (0, (xs (6 * k + 2)).toInt)]) (o := 113) (rest := [z_val ad (0, x)]) hx hb hown hml hls hG hh1 hok1 dL_law_753 zm_X12_place zsL_101 ⟨by decide, by decide, k_113⟩ rfl ⟨zl_xI _, zl_xI _, trivial⟩ (Nat.le_of_ble_eq_true rfl) (Nat.le_of_ble_eq_true rfl) hRm hRc h2 ?_
      rintro _ μ2 H2 locs2 ⟨y, rfl, rfl, hI2⟩ hv2 hh2 hok2
      refine lv_icmp_eq (tgt := 1104) hx hb dL_law_756 (by decide) (fun _ => ?_) (fun q => absurd rfl q)
      exact hnext μ2 H2 locs2 hI2 hok2 hh2
    | 21, _ =>
      have h1 := hO.2.2.2.2.2.2.2.2.2.2.2.2.2.2.2.2.2.2.2.2.2.1 μ (xs (6 * k + 1)).toInt hI hok (zl_xI _)
      show W p l e room_1 s m #[Value.ref b] below meth c H locs 147 7629 (lw_Z below #[Value.ref b] s) (F0 m 761 ls [])
      refine lv_aload_n hx hb dL_law_761 rfl (lv_at hl 1 rfl) ?_
      refine zl_arg (j := 1) hx hb hX hbl hbA hh.2.2.1 hl (by omega) hle (by decide) dL_law_762 dL_law_763 dL_law_764 dL_law_765 dL_law_766 ?_
      refine zw_call (as := [(0, (xs (6 * k + 1)).toInt)]) (o := 1) (rest := []) hx hb hown hml hls hG hh hok dL_law_767 zm_X11_over zsL_102 ⟨by decide, by decide, k_1⟩ rfl ⟨zl_xI _, trivial⟩ (Nat.le_of_ble_eq_true rfl) (by decide) hRm hRc h1 ?_
      rintro _ μ1 H1 locs1 ⟨x, rfl, h2⟩ hv1 hh1 hok1
      refine lv_aload_n hx hb dL_law_770 rfl (lv_at hl 2 rfl) ?_
      refine zl_arg (j := 1) hx hb hX hbl hbA hh1.2.2.1 hl (by omega) hle (by decide) dL_law_771 dL_law_772 dL_law_773 dL_law_774 dL_law_775 ?_
      refine zw_call (as := [(0, (xs (6 * k + 1)).toInt)]) (o := 113) (rest := [z_val ad (0, x)]) hx hb hown hml hls hG hh1 hok1 dL_law_776 zm_X12_over zsL_105 ⟨by decide, by decide, k_113⟩ rfl ⟨zl_xI _, trivial⟩ (Nat.le_of_ble_eq_true rfl) (Nat.le_of_ble_eq_true rfl) hRm hRc h2 ?_
      rintro _ μ2 H2 locs2 ⟨y, rfl, rfl, hI2⟩ hv2 hh2 hok2
      refine lv_icmp_eq (tgt := 1104) hx hb dL_law_779 (by decide) (fun _ => ?_) (fun q => absurd rfl q)
      exact hnext μ2 H2 locs2 hI2 hok2 hh2
    | 22, _ =>
      have h1 := hO.2.2.2.2.2.2.2.2.2.2.2.2.2.2.2.2.2.2.2.2.2.2.1 μ (xs (6 * k + 1)).toInt hI hok (zl_xI _)
      show W p l e room_1 s m #[Value.ref b] below meth c H locs 147 7629 (lw_Z below #[Value.ref b] s) (F0 m 784 ls [])
      refine lv_aload_n hx hb dL_law_784 rfl (lv_at hl 1 rfl) ?_
      refine zl_arg (j := 1) hx hb hX hbl hbA hh.2.2.1 hl (by omega) hle (by decide) dL_law_785 dL_law_786 dL_law_787 dL_law_788 dL_law_789 ?_
      refine zw_call (as := [(0, (xs (6 * k + 1)).toInt)]) (o := 1) (rest := []) hx hb hown hml hls hG hh hok dL_law_790 zm_X11_box zsL_106 ⟨by decide, by decide, k_1⟩ rfl ⟨zl_xI _, trivial⟩ (Nat.le_of_ble_eq_true rfl) (by decide) hRm hRc h1 ?_
      rintro _ μ1 H1 locs1 ⟨x, rfl, h2⟩ hv1 hh1 hok1
      refine lv_aload_n hx hb dL_law_793 rfl (lv_at hl 2 rfl) ?_
      refine zl_arg (j := 1) hx hb hX hbl hbA hh1.2.2.1 hl (by omega) hle (by decide) dL_law_794 dL_law_795 dL_law_796 dL_law_797 dL_law_798 ?_
      refine zw_call (as := [(0, (xs (6 * k + 1)).toInt)]) (o := 113) (rest := [z_val ad (0, x)]) hx hb hown hml hls hG hh1 hok1 dL_law_799 zm_X12_box zsL_109 ⟨by decide, by decide, k_113⟩ rfl ⟨zl_xI _, trivial⟩ (Nat.le_of_ble_eq_true rfl) (Nat.le_of_ble_eq_true rfl) hRm hRc h2 ?_
      rintro _ μ2 H2 locs2 ⟨y, rfl, rfl, hI2⟩ hv2 hh2 hok2
      refine lv_icmp_eq (tgt := 1104) hx hb dL_law_802 (by decide) (fun _ => ?_) (fun q => absurd rfl q)
      exact hnext μ2 H2 locs2 hI2 hok2 hh2
    | 23, _ =>
      have h1 := hO.2.2.2.2.2.2.2.2.2.2.2.2.2.2.2.2.2.2.2.2.2.2.2.1 μ (xs (6 * k + 1)).toInt hI hok (zl_xI _)
      show W p l e room_1 s m #[Value.ref b] below meth c H locs 147 7629 (lw_Z below #[Value.ref b] s) (F0 m 807 ls [])
      refine lv_aload_n hx hb dL_law_807 rfl (lv_at hl 1 rfl) ?_
      refine zl_arg (j := 1) hx hb hX hbl hbA hh.2.2.1 hl (by omega) hle (by decide) dL_law_808 dL_law_809 dL_law_810 dL_law_811 dL_law_812 ?_
      refine zw_call (as := [(0, (xs (6 * k + 1)).toInt)]) (o := 1) (rest := []) hx hb hown hml hls hG hh hok dL_law_813 zm_X11_part zsL_110 ⟨by decide, by decide, k_1⟩ rfl ⟨zl_xI _, trivial⟩ (Nat.le_of_ble_eq_true rfl) (by decide) hRm hRc h1 ?_
      rintro _ μ1 H1 locs1 ⟨x, rfl, h2⟩ hv1 hh1 hok1
      refine lv_aload_n hx hb dL_law_816 rfl (lv_at hl 2 rfl) ?_
      refine zl_arg (j := 1) hx hb hX hbl hbA hh1.2.2.1 hl (by omega) hle (by decide) dL_law_817 dL_law_818 dL_law_819 dL_law_820 dL_law_821 ?_
      refine zw_call (as := [(0, (xs (6 * k + 1)).toInt)]) (o := 113) (rest := [z_val ad (0, x)]) hx hb hown hml hls hG hh1 hok1 dL_law_822 zm_X12_part zsL_113 ⟨by decide, by decide, k_113⟩ rfl ⟨zl_xI _, trivial⟩ (Nat.le_of_ble_eq_true rfl) (Nat.le_of_ble_eq_true rfl) hRm hRc h2 ?_
      rintro _ μ2 H2 locs2 ⟨y, rfl, rfl, hI2⟩ hv2 hh2 hok2
      refine lv_icmp_eq (tgt := 1104) hx hb dL_law_825 (by decide) (fun _ => ?_) (fun q => absurd rfl q)
      exact hnext μ2 H2 locs2 hI2 hok2 hh2
    | 24, _ =>
      have h1 := hO.2.2.2.2.2.2.2.2.2.2.2.2.2.2.2.2.2.2.2.2.2.2.2.2.1 μ (xs (6 * k + 1)).toInt (xs (6 * k + 2)).toInt (xs (6 * k + 3)).toInt hI hok (zl_xI _) (zl_xI _) (zl_xI _)
      show W p l e room_1 s m #[Value.ref b] below meth c H locs 147 7629 (lw_Z below #[Value.ref b] s) (F0 m 830 ls [])
      refine lv_aload_n hx hb dL_law_830 rfl (lv_at hl 1 rfl) ?_
      refine zl_arg (j := 1) hx hb hX hbl hbA hh.2.2.1 hl (by omega) hle (by decide) dL_law_831 dL_law_832 dL_law_833 dL_law_834 dL_law_835 ?_
      refine zl_arg (j := 2) hx hb hX hbl hbA hh.2.2.1 hl (by omega) hle (by decide) dL_law_836 dL_law_837 dL_law_838 dL_law_839 dL_law_840 ?_
      refine zl_arg (j := 3) hx hb hX hbl hbA hh.2.2.1 hl (by omega) hle (by decide) dL_law_841 dL_law_842 dL_law_843 dL_law_844 dL_law_845 ?_
      refine zw_call (as := [(0, (xs (6 * k + 1)).toInt), (0, (xs (6 * k + 2)).toInt), (0, (xs (6 * k + 3)).toInt)]) (o := 1) (rest := []) hx hb hown hml hls hG hh hok dL_law_846 zm_X11_way zsL_114 ⟨by decide, by decide, k_1⟩ rfl ⟨zl_xI _, zl_xI _, zl_xI _, trivial⟩ (Nat.le_of_ble_eq_true rfl) (by decide) hRm hRc h1 ?_
      rintro _ μ1 H1 locs1 ⟨x, rfl, h2⟩ hv1 hh1 hok1
      refine lv_aload_n hx hb dL_law_849 rfl (lv_at hl 2 rfl) ?_
      refine zl_arg (j := 1) hx hb hX hbl hbA hh1.2.2.1 hl (by omega) hle (by decide) dL_law_850 dL_law_851 dL_law_852 dL_law_853 dL_law_854 ?_
      refine zl_arg (j := 2) hx hb hX hbl hbA hh1.2.2.1 hl (by omega) hle (by decide) dL_law_855 dL_law_856 dL_law_857 dL_law_858 dL_law_859 ?_
      refine zl_arg (j := 3) hx hb hX hbl hbA hh1.2.2.1 hl (by omega) hle (by decide) dL_law_860 dL_law_861 dL_law_862 dL_law_863 dL_law_864 ?_
      refine zw_call (as := [(0, (xs (6 * k + 1)).toInt), (0, (xs (6 * k + 2)).toInt), (0, (xs (6 * k + 3)).toInt)]) (o := 113) (rest := [z_val ad (0, x)]) hx hb hown hml hls hG hh1 hok1 dL_law_865 zm_X12_way zsL_117 ⟨by decide, by decide, k_113⟩ rfl ⟨zl_xI _, zl_xI _, zl_xI _, trivial⟩ (Nat.le_of_ble_eq_true rfl) (Nat.le_of_ble_eq_true rfl) hRm hRc h2 ?_
      rintro _ μ2 H2 locs2 ⟨y, rfl, rfl, hI2⟩ hv2 hh2 hok2
      refine lv_icmp_eq (tgt := 1104) hx hb dL_law_868 (by decide) (fun _ => ?_) (fun q => absurd rfl q)
      exact hnext μ2 H2 locs2 hI2 hok2 hh2
    | 25, _ =>
      have h1 := hO.2.2.2.2.2.2.2.2.2.2.2.2.2.2.2.2.2.2.2.2.2.2.2.2.2.1 μ (xs (6 * k + 1)).toInt hI hok (zl_xI _)
      show W p l e room_1 s m #[Value.ref b] below meth c H locs 147 7629 (lw_Z below #[Value.ref b] s) (F0 m 873 ls [])
      refine lv_aload_n hx hb dL_law_873 rfl (lv_at hl 1 rfl) ?_
      refine zl_arg (j := 1) hx hb hX hbl hbA hh.2.2.1 hl (by omega) hle (by decide) dL_law_874 dL_law_875 dL_law_876 dL_law_877 dL_law_878 ?_
      refine zw_call (as := [(0, (xs (6 * k + 1)).toInt)]) (o := 1) (rest := []) hx hb hown hml hls hG hh hok dL_law_879 zm_X11_free zsL_118 ⟨by decide, by decide, k_1⟩ rfl ⟨zl_xI _, trivial⟩ (Nat.le_of_ble_eq_true rfl) (by decide) hRm hRc h1 ?_
      rintro _ μ1 H1 locs1 ⟨x, rfl, h2⟩ hv1 hh1 hok1
      refine lv_aload_n hx hb dL_law_882 rfl (lv_at hl 2 rfl) ?_
      refine zl_arg (j := 1) hx hb hX hbl hbA hh1.2.2.1 hl (by omega) hle (by decide) dL_law_883 dL_law_884 dL_law_885 dL_law_886 dL_law_887 ?_
      refine zw_call (as := [(0, (xs (6 * k + 1)).toInt)]) (o := 113) (rest := [z_val ad (0, x)]) hx hb hown hml hls hG hh1 hok1 dL_law_888 zm_X12_free zsL_121 ⟨by decide, by decide, k_113⟩ rfl ⟨zl_xI _, trivial⟩ (Nat.le_of_ble_eq_true rfl) (Nat.le_of_ble_eq_true rfl) hRm hRc h2 ?_
      rintro _ μ2 H2 locs2 ⟨y, rfl, rfl, hI2⟩ hv2 hh2 hok2
      refine lv_icmp_eq (tgt := 1104) hx hb dL_law_891 (by decide) (fun _ => ?_) (fun q => absurd rfl q)
      exact hnext μ2 H2 locs2 hI2 hok2 hh2
    | 26, _ =>
      have h1 := hO.2.2.2.2.2.2.2.2.2.2.2.2.2.2.2.2.2.2.2.2.2.2.2.2.2.2.1 μ (xs (6 * k + 1)).toInt (xs (6 * k + 2)).toInt hI hok (zl_xI _) (zl_xI _)
      show W p l e room_1 s m #[Value.ref b] below meth c H locs 147 7629 (lw_Z below #[Value.ref b] s) (F0 m 896 ls [])
      refine lv_aload_n hx hb dL_law_896 rfl (lv_at hl 1 rfl) ?_
      refine zl_arg (j := 1) hx hb hX hbl hbA hh.2.2.1 hl (by omega) hle (by decide) dL_law_897 dL_law_898 dL_law_899 dL_law_900 dL_law_901 ?_
      refine zl_arg (j := 2) hx hb hX hbl hbA hh.2.2.1 hl (by omega) hle (by decide) dL_law_902 dL_law_903 dL_law_904 dL_law_905 dL_law_906 ?_
      refine zw_call (as := [(0, (xs (6 * k + 1)).toInt), (0, (xs (6 * k + 2)).toInt)]) (o := 1) (rest := []) hx hb hown hml hls hG hh hok dL_law_907 zm_X11_rim zsL_122 ⟨by decide, by decide, k_1⟩ rfl ⟨zl_xI _, zl_xI _, trivial⟩ (Nat.le_of_ble_eq_true rfl) (by decide) hRm hRc h1 ?_
      rintro _ μ1 H1 locs1 ⟨x, rfl, h2⟩ hv1 hh1 hok1
      refine lv_aload_n hx hb dL_law_910 rfl (lv_at hl 2 rfl) ?_
      refine zl_arg (j := 1) hx hb hX hbl hbA hh1.2.2.1 hl (by omega) hle (by decide) dL_law_911 dL_law_912 dL_law_913 dL_law_914 dL_law_915 ?_
      refine zl_arg (j := 2) hx hb hX hbl hbA hh1.2.2.1 hl (by omega) hle (by decide) dL_law_916 dL_law_917 dL_law_918 dL_law_919 dL_law_920 ?_
      refine zw_call (as := [(0, (xs (6 * k + 1)).toInt), (0, (xs (6 * k + 2)).toInt)]) (o := 113) (rest := [z_val ad (0, x)]) hx hb hown hml hls hG hh1 hok1 dL_law_921 zm_X12_rim zsL_125 ⟨by decide, by decide, k_113⟩ rfl ⟨zl_xI _, zl_xI _, trivial⟩ (Nat.le_of_ble_eq_true rfl) (Nat.le_of_ble_eq_true rfl) hRm hRc h2 ?_
      rintro _ μ2 H2 locs2 ⟨y, rfl, rfl, hI2⟩ hv2 hh2 hok2
      refine lv_icmp_eq (tgt := 1104) hx hb dL_law_924 (by decide) (fun _ => ?_) (fun q => absurd rfl q)
      exact hnext μ2 H2 locs2 hI2 hok2 hh2
    | 27, _ =>
      have h1 := hO.2.2.2.2.2.2.2.2.2.2.2.2.2.2.2.2.2.2.2.2.2.2.2.2.2.2.2.1 μ hI hok
      show W p l e room_1 s m #[Value.ref b] below meth c H locs 147 7629 (lw_Z below #[Value.ref b] s) (F0 m 929 ls [])
      refine lv_aload_n hx hb dL_law_929 rfl (lv_at hl 1 rfl) ?_
      refine zw_call (as := []) (o := 1) (rest := []) hx hb hown hml hls hG hh hok dL_law_930 zm_X11_gluings zsL_126 ⟨by decide, by decide, k_1⟩ rfl trivial (Nat.le_of_ble_eq_true rfl) (by decide) hRm hRc h1 ?_
      rintro _ μ1 H1 locs1 ⟨x, rfl, h2⟩ hv1 hh1 hok1
      refine lv_aload_n hx hb dL_law_933 rfl (lv_at hl 2 rfl) ?_
      refine zw_call (as := []) (o := 113) (rest := [z_val ad (0, x)]) hx hb hown hml hls hG hh1 hok1 dL_law_934 zm_X12_gluings zsL_129 ⟨by decide, by decide, k_113⟩ rfl trivial (Nat.le_of_ble_eq_true rfl) (Nat.le_of_ble_eq_true rfl) hRm hRc h2 ?_
      rintro _ μ2 H2 locs2 ⟨y, rfl, rfl, hI2⟩ hv2 hh2 hok2
      refine lv_icmp_eq (tgt := 1104) hx hb dL_law_937 (by decide) (fun _ => ?_) (fun q => absurd rfl q)
      exact hnext μ2 H2 locs2 hI2 hok2 hh2
    | 28, _ =>
      have h1 := hO.2.2.2.2.2.2.2.2.2.2.2.2.2.2.2.2.2.2.2.2.2.2.2.2.2.2.2.2.1 μ (xs (6 * k + 1)).toInt (xs (6 * k + 2)).toInt hI hok (zl_xI _) (zl_xI _)
      show W p l e room_1 s m #[Value.ref b] below meth c H locs 147 7629 (lw_Z below #[Value.ref b] s) (F0 m 942 ls [])
      refine lv_aload_n hx hb dL_law_942 rfl (lv_at hl 1 rfl) ?_
      refine zl_arg (j := 1) hx hb hX hbl hbA hh.2.2.1 hl (by omega) hle (by decide) dL_law_943 dL_law_944 dL_law_945 dL_law_946 dL_law_947 ?_
      refine zl_arg (j := 2) hx hb hX hbl hbA hh.2.2.1 hl (by omega) hle (by decide) dL_law_948 dL_law_949 dL_law_950 dL_law_951 dL_law_952 ?_
      refine zw_call (as := [(0, (xs (6 * k + 1)).toInt), (0, (xs (6 * k + 2)).toInt)]) (o := 1) (rest := []) hx hb hown hml hls hG hh hok dL_law_953 zm_X11_glued zsL_130 ⟨by decide, by decide, k_1⟩ rfl ⟨zl_xI _, zl_xI _, trivial⟩ (Nat.le_of_ble_eq_true rfl) (by decide) hRm hRc h1 ?_
      rintro _ μ1 H1 locs1 ⟨x, rfl, h2⟩ hv1 hh1 hok1
      refine lv_aload_n hx hb dL_law_956 rfl (lv_at hl 2 rfl) ?_
      refine zl_arg (j := 1) hx hb hX hbl hbA hh1.2.2.1 hl (by omega) hle (by decide) dL_law_957 dL_law_958 dL_law_959 dL_law_960 dL_law_961 ?_
      refine zl_arg (j := 2) hx hb hX hbl hbA hh1.2.2.1 hl (by omega) hle (by decide) dL_law_962 dL_law_963 dL_law_964 dL_law_965 dL_law_966 ?_
      refine zw_call (as := [(0, (xs (6 * k + 1)).toInt), (0, (xs (6 * k + 2)).toInt)]) (o := 113) (rest := [z_val ad (0, x)]) hx hb hown hml hls hG hh1 hok1 dL_law_967 zm_X12_glued zsL_133 ⟨by decide, by decide, k_113⟩ rfl ⟨zl_xI _, zl_xI _, trivial⟩ (Nat.le_of_ble_eq_true rfl) (Nat.le_of_ble_eq_true rfl) hRm hRc h2 ?_
      rintro _ μ2 H2 locs2 ⟨y, rfl, rfl, hI2⟩ hv2 hh2 hok2
      refine lv_icmp_eq (tgt := 1104) hx hb dL_law_970 (by decide) (fun _ => ?_) (fun q => absurd rfl q)
      exact hnext μ2 H2 locs2 hI2 hok2 hh2
    | 29, _ =>
      have h1 := hO.2.2.2.2.2.2.2.2.2.2.2.2.2.2.2.2.2.2.2.2.2.2.2.2.2.2.2.2.2.1 μ (xs (6 * k + 1)).toInt (xs (6 * k + 2)).toInt hI hok (zl_xI _) (zl_xI _)
      show W p l e room_1 s m #[Value.ref b] below meth c H locs 147 7629 (lw_Z below #[Value.ref b] s) (F0 m 975 ls [])
      refine lv_aload_n hx hb dL_law_975 rfl (lv_at hl 1 rfl) ?_
      refine zl_arg (j := 1) hx hb hX hbl hbA hh.2.2.1 hl (by omega) hle (by decide) dL_law_976 dL_law_977 dL_law_978 dL_law_979 dL_law_980 ?_
      refine zl_arg (j := 2) hx hb hX hbl hbA hh.2.2.1 hl (by omega) hle (by decide) dL_law_981 dL_law_982 dL_law_983 dL_law_984 dL_law_985 ?_
      refine zw_call (as := [(0, (xs (6 * k + 1)).toInt), (0, (xs (6 * k + 2)).toInt)]) (o := 1) (rest := []) hx hb hown hml hls hG hh hok dL_law_986 zm_X11_lacks zsL_134 ⟨by decide, by decide, k_1⟩ rfl ⟨zl_xI _, zl_xI _, trivial⟩ (Nat.le_of_ble_eq_true rfl) (by decide) hRm hRc h1 ?_
      rintro _ μ1 H1 locs1 ⟨x, rfl, h2⟩ hv1 hh1 hok1
      refine lv_aload_n hx hb dL_law_989 rfl (lv_at hl 2 rfl) ?_
      refine zl_arg (j := 1) hx hb hX hbl hbA hh1.2.2.1 hl (by omega) hle (by decide) dL_law_990 dL_law_991 dL_law_992 dL_law_993 dL_law_994 ?_
      refine zl_arg (j := 2) hx hb hX hbl hbA hh1.2.2.1 hl (by omega) hle (by decide) dL_law_995 dL_law_996 dL_law_997 dL_law_998 dL_law_999 ?_
      refine zw_call (as := [(0, (xs (6 * k + 1)).toInt), (0, (xs (6 * k + 2)).toInt)]) (o := 113) (rest := [z_val ad (0, x)]) hx hb hown hml hls hG hh1 hok1 dL_law_1000 zm_X12_lacks zsL_137 ⟨by decide, by decide, k_113⟩ rfl ⟨zl_xI _, zl_xI _, trivial⟩ (Nat.le_of_ble_eq_true rfl) (Nat.le_of_ble_eq_true rfl) hRm hRc h2 ?_
      rintro _ μ2 H2 locs2 ⟨y, rfl, rfl, hI2⟩ hv2 hh2 hok2
      refine lv_icmp_eq (tgt := 1104) hx hb dL_law_1003 (by decide) (fun _ => ?_) (fun q => absurd rfl q)
      exact hnext μ2 H2 locs2 hI2 hok2 hh2
    | 30, _ =>
      have h1 := hO.2.2.2.2.2.2.2.2.2.2.2.2.2.2.2.2.2.2.2.2.2.2.2.2.2.2.2.2.2.2.1 μ hI hok
      show W p l e room_1 s m #[Value.ref b] below meth c H locs 147 7629 (lw_Z below #[Value.ref b] s) (F0 m 1008 ls [])
      refine lv_aload_n hx hb dL_law_1008 rfl (lv_at hl 1 rfl) ?_
      refine zw_call (as := []) (o := 1) (rest := []) hx hb hown hml hls hG hh hok dL_law_1009 zm_X11_itself zsL_138 ⟨by decide, by decide, k_1⟩ rfl trivial (Nat.le_of_ble_eq_true rfl) (by decide) hRm hRc h1 ?_
      rintro _ μ1 H1 locs1 ⟨x, rfl, h2⟩ hv1 hh1 hok1
      refine lv_aload_n hx hb dL_law_1012 rfl (lv_at hl 2 rfl) ?_
      refine zw_call (as := []) (o := 113) (rest := [z_val ad (0, x)]) hx hb hown hml hls hG hh1 hok1 dL_law_1013 zm_X12_itself zsL_141 ⟨by decide, by decide, k_113⟩ rfl trivial (Nat.le_of_ble_eq_true rfl) (Nat.le_of_ble_eq_true rfl) hRm hRc h2 ?_
      rintro _ μ2 H2 locs2 ⟨y, rfl, rfl, hI2⟩ hv2 hh2 hok2
      refine lv_icmp_eq (tgt := 1104) hx hb dL_law_1016 (by decide) (fun _ => ?_) (fun q => absurd rfl q)
      exact hnext μ2 H2 locs2 hI2 hok2 hh2
    | 31, _ =>
      have h1 := hO.2.2.2.2.2.2.2.2.2.2.2.2.2.2.2.2.2.2.2.2.2.2.2.2.2.2.2.2.2.2.2.1 μ hI hok
      show W p l e room_1 s m #[Value.ref b] below meth c H locs 147 7629 (lw_Z below #[Value.ref b] s) (F0 m 1021 ls [])
      refine lv_aload_n hx hb dL_law_1021 rfl (lv_at hl 1 rfl) ?_
      refine zw_call (as := []) (o := 1) (rest := []) hx hb hown hml hls hG hh hok dL_law_1022 zm_X11_outline zsL_142 ⟨by decide, by decide, k_1⟩ rfl trivial (Nat.le_of_ble_eq_true rfl) (by decide) hRm hRc h1 ?_
      rintro _ μ1 H1 locs1 ⟨x, rfl, h2⟩ hv1 hh1 hok1
      refine lv_aload_n hx hb dL_law_1025 rfl (lv_at hl 2 rfl) ?_
      refine zw_call (as := []) (o := 113) (rest := [z_val ad (1, x)]) hx hb hown hml hls hG hh1 hok1 dL_law_1026 zm_X12_outline zsL_146 ⟨by decide, by decide, k_113⟩ rfl trivial (Nat.le_of_ble_eq_true rfl) (Nat.le_of_ble_eq_true rfl) hRm hRc h2 ?_
      rintro _ μ2 H2 locs2 ⟨y, rfl, rfl, hI2⟩ hv2 hh2 hok2
      refine W.lcmp hx hb dL_law_1029 ?_
      rw [show lg_cmp (Int64.ofInt y) (Int64.ofInt y) = 0 from by unfold lg_cmp; simp]
      refine lv_if_eq (tgt := 1104) hx hb dL_law_1030 (by decide) (fun _ => ?_) (fun q => absurd rfl q)
      exact hnext μ2 H2 locs2 hI2 hok2 hh2
    | 32, _ =>
      have h1 := hO.2.2.2.2.2.2.2.2.2.2.2.2.2.2.2.2.2.2.2.2.2.2.2.2.2.2.2.2.2.2.2.2.1 μ (xs (6 * k + 1)).toInt hI hok (zl_xI _)
      show W p l e room_1 s m #[Value.ref b] below meth c H locs 147 7629 (lw_Z below #[Value.ref b] s) (F0 m 1035 ls [])
      refine lv_aload_n hx hb dL_law_1035 rfl (lv_at hl 1 rfl) ?_
      refine zl_arg (j := 1) hx hb hX hbl hbA hh.2.2.1 hl (by omega) hle (by decide) dL_law_1036 dL_law_1037 dL_law_1038 dL_law_1039 dL_law_1040 ?_
      refine zw_call (as := [(0, (xs (6 * k + 1)).toInt)]) (o := 1) (rest := []) hx hb hown hml hls hG hh hok dL_law_1041 zm_X11_alike zsL_147 ⟨by decide, by decide, k_1⟩ rfl ⟨zl_xI _, trivial⟩ (Nat.le_of_ble_eq_true rfl) (by decide) hRm hRc h1 ?_
      rintro _ μ1 H1 locs1 ⟨x, rfl, h2⟩ hv1 hh1 hok1
      refine lv_aload_n hx hb dL_law_1044 rfl (lv_at hl 2 rfl) ?_
      refine zl_arg (j := 1) hx hb hX hbl hbA hh1.2.2.1 hl (by omega) hle (by decide) dL_law_1045 dL_law_1046 dL_law_1047 dL_law_1048 dL_law_1049 ?_
      refine zw_call (as := [(0, (xs (6 * k + 1)).toInt)]) (o := 113) (rest := [z_val ad (0, x)]) hx hb hown hml hls hG hh1 hok1 dL_law_1050 zm_X12_alike zsL_150 ⟨by decide, by decide, k_113⟩ rfl ⟨zl_xI _, trivial⟩ (Nat.le_of_ble_eq_true rfl) (Nat.le_of_ble_eq_true rfl) hRm hRc h2 ?_
      rintro _ μ2 H2 locs2 ⟨y, rfl, rfl, hI2⟩ hv2 hh2 hok2
      refine lv_icmp_eq (tgt := 1104) hx hb dL_law_1053 (by decide) (fun _ => ?_) (fun q => absurd rfl q)
      exact hnext μ2 H2 locs2 hI2 hok2 hh2
    | 33, _ =>
      have h1 := hO.2.2.2.2.2.2.2.2.2.2.2.2.2.2.2.2.2.2.2.2.2.2.2.2.2.2.2.2.2.2.2.2.2.1 μ (xs (6 * k + 1)).toInt hI hok (zl_xI _)
      show W p l e room_1 s m #[Value.ref b] below meth c H locs 147 7629 (lw_Z below #[Value.ref b] s) (F0 m 1058 ls [])
      refine lv_aload_n hx hb dL_law_1058 rfl (lv_at hl 1 rfl) ?_
      refine zl_arg (j := 1) hx hb hX hbl hbA hh.2.2.1 hl (by omega) hle (by decide) dL_law_1059 dL_law_1060 dL_law_1061 dL_law_1062 dL_law_1063 ?_
      refine zw_call (as := [(0, (xs (6 * k + 1)).toInt)]) (o := 1) (rest := []) hx hb hown hml hls hG hh hok dL_law_1064 zm_X11_best zsL_151 ⟨by decide, by decide, k_1⟩ rfl ⟨zl_xI _, trivial⟩ (Nat.le_of_ble_eq_true rfl) (by decide) hRm hRc h1 ?_
      rintro _ μ1 H1 locs1 ⟨x, rfl, h2⟩ hv1 hh1 hok1
      refine lv_aload_n hx hb dL_law_1067 rfl (lv_at hl 2 rfl) ?_
      refine zl_arg (j := 1) hx hb hX hbl hbA hh1.2.2.1 hl (by omega) hle (by decide) dL_law_1068 dL_law_1069 dL_law_1070 dL_law_1071 dL_law_1072 ?_
      refine zw_call (as := [(0, (xs (6 * k + 1)).toInt)]) (o := 113) (rest := [z_val ad (0, x)]) hx hb hown hml hls hG hh1 hok1 dL_law_1073 zm_X12_best zsL_154 ⟨by decide, by decide, k_113⟩ rfl ⟨zl_xI _, trivial⟩ (Nat.le_of_ble_eq_true rfl) (Nat.le_of_ble_eq_true rfl) hRm hRc h2 ?_
      rintro _ μ2 H2 locs2 ⟨y, rfl, rfl, hI2⟩ hv2 hh2 hok2
      refine lv_icmp_eq (tgt := 1104) hx hb dL_law_1076 (by decide) (fun _ => ?_) (fun q => absurd rfl q)
      exact hnext μ2 H2 locs2 hI2 hok2 hh2
    | 34, _ =>
      have h1 := hO.2.2.2.2.2.2.2.2.2.2.2.2.2.2.2.2.2.2.2.2.2.2.2.2.2.2.2.2.2.2.2.2.2.2 μ (xs (6 * k + 1)).toInt hI hok (zl_xI _)
      show W p l e room_1 s m #[Value.ref b] below meth c H locs 147 7629 (lw_Z below #[Value.ref b] s) (F0 m 1081 ls [])
      refine lv_aload_n hx hb dL_law_1081 rfl (lv_at hl 1 rfl) ?_
      refine zl_arg (j := 1) hx hb hX hbl hbA hh.2.2.1 hl (by omega) hle (by decide) dL_law_1082 dL_law_1083 dL_law_1084 dL_law_1085 dL_law_1086 ?_
      refine zw_call (as := [(0, (xs (6 * k + 1)).toInt)]) (o := 1) (rest := []) hx hb hown hml hls hG hh hok dL_law_1087 zm_X11_count zsL_155 ⟨by decide, by decide, k_1⟩ rfl ⟨zl_xI _, trivial⟩ (Nat.le_of_ble_eq_true rfl) (by decide) hRm hRc h1 ?_
      rintro _ μ1 H1 locs1 ⟨x, rfl, h2⟩ hv1 hh1 hok1
      refine lv_aload_n hx hb dL_law_1090 rfl (lv_at hl 2 rfl) ?_
      refine zl_arg (j := 1) hx hb hX hbl hbA hh1.2.2.1 hl (by omega) hle (by decide) dL_law_1091 dL_law_1092 dL_law_1093 dL_law_1094 dL_law_1095 ?_
      refine zw_call (as := [(0, (xs (6 * k + 1)).toInt)]) (o := 113) (rest := [z_val ad (0, x)]) hx hb hown hml hls hG hh1 hok1 dL_law_1096 zm_X12_count zsL_158 ⟨by decide, by decide, k_113⟩ rfl ⟨zl_xI _, trivial⟩ (Nat.le_of_ble_eq_true rfl) (Nat.le_of_ble_eq_true rfl) hRm hRc h2 ?_
      rintro _ μ2 H2 locs2 ⟨y, rfl, rfl, hI2⟩ hv2 hh2 hok2
      refine lv_icmp_eq (tgt := 1104) hx hb dL_law_1099 (by decide) (fun _ => ?_) (fun q => absurd rfl q)
      exact hnext μ2 H2 locs2 hI2 hok2 hh2
    | i + 35, hi => exact absurd hi (by simp)

/-- the memory behind both constructors -/
def z_mu0 : z_Mem := R_113 (R_1 (fun _ _ => 0))
set_option maxRecDepth 100000 in
theorem z_mu0_ptr : ∀ o i : Int, z_isP o i = true → z_mu0 o i = z_P o i := by
  have key : ∀ a : Nat, a < 148 → ∀ b : Nat, b < 50 → z_isP a b = true → z_mu0 a b = z_P a b := by decide +kernel
  intro o i h
  have h0 := h
  unfold z_isP at h
  simp only [Bool.and_eq_true, decide_eq_true_eq] at h
  obtain ⟨⟨⟨h1, h2⟩, h3⟩, h4⟩ := h
  have ho : 1 ≤ o ∧ o ≤ 147 ∧ z_ln o ≤ 50 := by
    have hk : z_kd o < 99 := by
      unfold z_tg z_tgk at h1
      split at h1
      · omega
      · split at h1 <;> omega
    have h5 := z_isn (o := o) rfl hk
    refine ⟨h5.1, h5.2.1, ?_⟩
    have hb : (fun o => !(decide (z_tg o i = 2)) || decide (z_ln o ≤ 50)) o = true := by
      have q : (List.range 147).all (fun a => (decide (z_kd ((a : Int) + 1) = 13) || decide (z_kd ((a : Int) + 1) = 14) || decide (z_kd ((a : Int) + 1) = 15) || decide (z_kd ((a : Int) + 1) = 16)) || decide (z_ln ((a : Int) + 1) ≤ 50)) = true := by decide +kernel
      have q2 := List.all_eq_true.mp q (o.toNat - 1) (List.mem_range.mpr (by have := h5.1; have := h5.2.1; simp only at this; omega))
      rw [show ((o.toNat - 1 : Nat) : Int) + 1 = o by have := h5.1; omega] at q2
      simp only [Bool.or_eq_true, decide_eq_true_eq] at q2
      have hne : ∀ t, z_kd o = t → (t = 13 ∨ t = 14 ∨ t = 15 ∨ t = 16) → False := by
        intro t ht hc
        unfold z_tg at h1
        rw [ht] at h1
        rcases hc with rfl | rfl | rfl | rfl <;> first | exact absurd (show (4 : Nat) = 2 from h1) (by decide) | exact absurd (show (0 : Nat) = 2 from h1) (by decide) | exact absurd (show (1 : Nat) = 2 from h1) (by decide) | exact absurd (show (3 : Nat) = 2 from h1) (by decide)
      simp only [Bool.or_eq_true, decide_eq_true_eq]
      right
      rcases q2 with (((q2 | q2) | q2) | q2) | q2
      · exact (hne _ q2 (by simp)).elim
      · exact (hne _ q2 (by simp)).elim
      · exact (hne _ q2 (by simp)).elim
      · exact (hne _ q2 (by simp)).elim
      · exact q2
    simp only [h1, decide_true, Bool.not_true, Bool.false_or, decide_eq_true_eq] at hb
    exact hb
  have := key o.toNat (by omega) i.toNat (by omega)
  rw [Int.toNat_of_nonneg (by omega), Int.toNat_of_nonneg h2] at this
  exact this h0
set_option maxHeartbeats 4000000 in
set_option maxRecDepth 100000 in
theorem zl_start {N0 : Nat} {Inv : Nat → z_Mem → Prop} (hN0 : N0 ≤ 1000000) (hop : ∀ k, 6 * k + 6 ≤ N0 → op_all (Inv k) (Inv (k + 1))) (hid : ∀ k μ, Inv k μ → Inv (k + 1) μ) (hI0 : Inv 0 z_mu0) {p : Program} {e : Env} {s : State} {m : MethodId} {below : List Frame} {meth : Method} {c : Code} (l : Launch) {b L : Nat} {xs : Nat → Int32} (hL : L ≤ N0) (C0 : lw_At p s m meth c b L xs) : W p l e room_1 s m #[Value.ref b] below meth c s.heap [] 0 0 (lw_Z below #[Value.ref b] s) (entryFrame m ([Value.ref b] : List Value).toArray 4) := by
  have C1 := C0
  obtain ⟨hx, hb, hr, hml, hown, hts, hX, hbl, hlocks, hgv⟩ := C0
  obtain ⟨D, cy, ad, hG⟩ := z_start_G hts hgv
  have hl := lv_entry ([.ref b]) (n := 4) (Nat.le_of_ble_eq_true rfl)
  rw [lg_entry_eq]
  generalize (lg_sl ([.ref b]) ++ List.replicate (4 - (lg_sl ([.ref b])).length) Slot.unset).toArray = ls at hl ⊢
  have hl : lv_has ls 4 [(0, .ref b)] := hl
  have hh : z_ho D cy ad (fun q => s.heap.size ≤ q) (0, 147, false) (fun _ _ => 0) s s.heap [] := ⟨fun k q h => by simp [z_ws] at h, ⟨fun i j p q h => by simp [z_ws] at h, fun k q h => by simp [z_ws] at h⟩, va_S.rf, fun _ h => h⟩
  have hk : z_ok (fun _ _ => 0) (0, 147, false) := ⟨fun o i h1 h2 => by simp only at h2; omega, fun q => by cases q⟩
  refine zw_new (N := 0) (kc := 11) (q := (RX11, TX11, 13)) hx hb hown hG hh hk dL_law_0 zq_136 zq_137 zq_120 rfl tyX11 tyX11_ok (by decide +kernel) (by decide +kernel) (fun _ => rfl) ⟨by decide, by decide⟩ (fun ad1 H1 locs1 g1 hh1 hk1 => ?_)
  have hG1 : z_G D cy ad1 (fun q => s.heap.size ≤ q) s #[Value.ref b] := ⟨hG.1, hG.2.1, hG.2.2.1, fun j q hq => by rw [g1 (1001 + j) (by omega)]; exact hG.2.2.2 j q hq⟩
  refine lv_dup hx hb dL_law_3 rfl ?_
  refine zw_init (N := 1) (n1 := 112) (o := 1) (d := 203) (M' := m_X11_init) hx hb hown hml hl.1 hG1 hh1 hk1 dL_law_4 zm_X11_init zq_138 zq_139 rfl rfl (by decide) (by decide) (Nat.le_of_ble_eq_true rfl) (by decide) (by decide) ⟨by decide, by decide⟩ ⟨by decide, by decide +kernel⟩ (I_1 (d := 200) (Q := fun r μ1 => r = none ∧ μ1 = R_1 (fun _ _ => 0)) (fun p i _ => rfl) ⟨rfl, rfl⟩) (fun μ1 ad2 H2 locs2 r hr1 g2 hh2 hk2 => ?_)
  obtain ⟨rfl, rfl⟩ := hr1
  have hG2 : z_G D cy ad2 (fun q => s.heap.size ≤ q) s #[Value.ref b] := ⟨hG1.1, hG1.2.1, hG1.2.2.1, fun j q hq => by rw [g2 (1001 + j) (by omega)]; exact hG1.2.2.2 j q hq⟩
  refine lv_astore_n (lv' := [(1, .ref (ad1 1)), (0, .ref b)]) hx hb dL_law_7 rfl hl (by decide) rfl (fun ls hl => ?_)
  refine zw_new (N := 112) (kc := 12) (q := (RX12, TX12, 50)) hx hb hown hG2 hh2 hk2 dL_law_8 zq_1196 zq_1197 zq_132 rfl tyX12 tyX12_ok (by decide +kernel) (by decide +kernel) (z_fzi (R_1_fz (fun p i _ => rfl))) ⟨by decide, by decide +kernel⟩ (fun ad3 H3 locs3 g3 hh3 hk3 => ?_)
  have hG3 : z_G D cy ad3 (fun q => s.heap.size ≤ q) s #[Value.ref b] := ⟨hG2.1, hG2.2.1, hG2.2.2.1, fun j q hq => by rw [g3 (1001 + j) (by omega)]; exact hG2.2.2.2 j q hq⟩
  refine lv_dup hx hb dL_law_11 rfl ?_
  refine zw_init (N := 113) (n1 := 147) (o := 113) (d := 201) (M' := m_X12_init) hx hb hown hml hl.1 hG3 hh3 hk3 dL_law_12 zm_X12_init zq_1198 zq_1199 rfl rfl (by decide) (by decide) (Nat.le_of_ble_eq_true rfl) (by decide) (by decide) ⟨by decide, by decide⟩ ⟨by decide, by decide +kernel⟩ (I_113 (d := 200) (Q := fun r μ1 => r = none ∧ μ1 = R_113 (R_1 (fun _ _ => 0))) (z_fz_up (R_1_fz (fun p i _ => rfl)) (by decide)) ⟨rfl, rfl⟩) (fun μ1 ad4 H4 locs4 r hr1 g4 hh4 hk4 => ?_)
  obtain ⟨rfl, rfl⟩ := hr1
  have hG4 : z_G D cy ad4 (fun q => s.heap.size ≤ q) s #[Value.ref b] := ⟨hG3.1, hG3.2.1, hG3.2.2.1, fun j q hq => by rw [g4 (1001 + j) (by omega)]; exact hG3.2.2.2 j q hq⟩
  have e1 : ad1 1 = ad4 1 := by rw [g4 1 (by omega), g3 1 (by omega), g2 1 (by omega)]
  have e3 : ad3 (112 + 1) = ad4 113 := (g4 113 (by omega)).symm
  rw [e1] at hl
  rw [e3]
  refine lv_astore_n (lv' := [(2, .ref (ad4 113)), (1, .ref (ad4 1)), (0, .ref b)]) hx hb dL_law_15 rfl hl (by decide) rfl (fun ls hl => ?_)
  refine lv_iconst (v := 0) hx hb dL_law_16 (by decide) ?_
  refine lv_istore_n (lv' := [(3, .int 0), (2, .ref (ad4 113)), (1, .ref (ad4 1)), (0, .ref b)]) hx hb dL_law_17 rfl hl (by decide) rfl (fun ls hl => ?_)
  refine W.widen (k := 147) (n := 7629) (by decide) (by decide +kernel) ?_
  exact zl_loop hN0 hop hid hL C1 hG4 (L + 1) 0 (by omega) (by omega) z_mu0 H4 locs4 ls hI0 ⟨hk4.1, fun _ => z_mu0_ptr⟩ hh4 (lv_sub hl [3, 2, 1, 0] rfl)

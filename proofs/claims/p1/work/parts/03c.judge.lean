/-! THE JUDGEMENT: z_R M pc lo sk w μ d Q: from the place pc of the method M, with locals lo and stack sk, over a heap that holds the memory μ (w.1 cells of z_sh made, w.2.1 at the end), with room for d calls, the method ends, and Q says of the answer and the memory then -/
def z_isnest (w : Cond) : Bool := match w with
  | .methodLinkNest _ _ _ _ => true
  | .fieldLinkNest _ _ _ _ _ _ => true
  | .arrayOver t => (match t with
    | .object _ => true
    | .array _ => true
    | _ => false)
  | _ => false
def z_gw : List Cond := lw_tbl.filter goodWord
def z_nw : List Cond := lw_tbl.filter z_isnest
def z_tys (cy : Nat → ClassId) : List (ClassId × FieldType) := [(cy 13, .byte), (cy 14, .int), (cy 15, .long), (cy 16, .boolean), (cy 17, .object RX3), (cy 18, .object RX7), (cy 19, .array .int)]
def z_stat : List (String × String × List Int) := [
  (RX11, "LOOKS", [2, 4, 3, 5, 4, 2, 5, 3, 4, 0, 5, 1, 0, 4, 1, 5, 0, 2, 1, 3, 2, 0, 3, 1]),
  (RX11, "STEP_X", [1, 0, -1, 0]),
  (RX11, "STEP_Y", [0, 1, 0, -1]),
  (RX12, "STEP_X", [1, -1, 0, 0, 0, 0]),
  (RX12, "STEP_Y", [0, 0, 1, -1, 0, 0]),
  (RX12, "STEP_Z", [0, 0, 0, 0, 1, -1]),
  (RX12, "U", [2, 4, 4, 0, 0, 2]),
  (RX12, "V", [4, 2, 0, 4, 2, 0])]
def z_S (j : Nat) (i : Int) : Int := ((z_stat.getD j ("", "", [])).2.2).getD i.toNat 0
def z_sl (a b : Nat) : Nat := (((z_sh.take b).drop a).map Prod.snd).sum
def z_cat (v : z_V) : Nat := if v.1 = 1 then 2 else 1
def z_lo (ad : Nat → Nat) (nL : Nat) (ls : Array Slot) (lo : List (Option z_V)) : Prop := ls.size = nL ∧ lv_wf ls ∧ ∀ (i : Nat) (v : z_V), lo[i]? = some (some v) → ls[i]? = some (.val (z_val ad v))
def z_all : List z_V → Prop
  | [] => True
  | v :: t => z_rv v ∧ z_all t
def z_allo (lo : List (Option z_V)) : Prop := ∀ (i : Nat) (v : z_V), lo[i]? = some (some v) → z_rv v
def z_C (M : z_M) (p : Program) (s : State) (m : MethodId) (meth : Method) (c : Code) : Prop :=
  p.tables.exec = Jvm.exec ∧ c.code = M.2.1 ∧ meth.sig.returnType = M.2.2.2 ∧ c.maxLocals = M.2.2.1 ∧ s.vm.findClass M.1.cls = some m.cls ∧ meth.locks = false ∧ meth.name = M.1.name
def z_G (D : va_G) (cy : Nat → ClassId) (ad : Nat → Nat) (A : Nat → Prop) (s : State) (args : Array Value) : Prop :=
  (∀ w ∈ z_gw, w.before args s = true) ∧ (∀ w ∈ z_nw, va_Nw w s) ∧ va_K D vwCl (z_tys cy) s ∧
  ∀ (j : Nat) (q : String × String × List Int), z_stat[j]? = some q → va_Z q.1 q.2.1 "[I" (.ref (ad (1001 + j))) A s s.heap ∧ va_T .int (ad (1001 + j)) q.2.2.length (fun i => .int (Int32.ofInt (q.2.2.getD i 0))) A s s.heap
def z_rm (w : z_W) (d : Nat) (R : Room) (cells slots : Nat) : Prop := d ≤ R.frames ∧ 64 * d ≤ R.locals ∧ w.1 ≤ w.2.1 ∧ w.2.1 ≤ 1000 ∧ cells + (w.2.1 - w.1) ≤ R.cells ∧ slots + z_sl w.1 w.2.1 ≤ R.slots
def z_ho (D : va_G) (cy : Nat → ClassId) (ad : Nat → Nat) (A : Nat → Prop) (w : z_W) (μ : z_Mem) (s : State) (H : Heap) (locs : List Loc) : Prop :=
  va_P D vwCl (z_ws cy ad μ w.1) H ∧ va_D A (z_ws cy ad μ w.1) ∧ va_S A s.heap H locs ∧ ∀ q, s.heap.size ≤ q → A q
def z_Q (D : va_G) (cy : Nat → ClassId) (ad : Nat → Nat) (A : Nat → Prop) (w : z_W) (Q : Option z_V → z_Mem → Prop) : Array Value → State → Outcome → State → Prop := fun _ st o t =>
  (∃ (r : Option z_V) (μ1 : z_Mem) (ad1 : Nat → Nat), o = .returned (r.map (z_val ad1)) ∧ (∀ v, r = some v → z_rv v) ∧ Q r μ1 ∧ (∀ x : Nat, ¬ (w.1 < x ∧ x ≤ w.2.1) → ad1 x = ad x) ∧ va_P D vwCl (z_ws cy ad1 μ1 w.2.1) t.heap ∧ va_D A (z_ws cy ad1 μ1 w.2.1) ∧ z_ok μ1 (w.2.1, w.2.1, w.2.2)) ∧ va_F A st t
def z_R (M : z_M) (pc : Nat) (lo : List (Option z_V)) (sk : List z_V) (w : z_W) (μ : z_Mem) (d : Nat) (Q : Option z_V → z_Mem → Prop) : Prop :=
  ∀ (p : Program) (l : Launch) (e : Env) (R : Room) (s : State) (m : MethodId) (args : Array Value) (below : List Frame) (meth : Method) (c : Code) (H : Heap) (locs : List Loc) (cells slots : Nat) (D : va_G) (cy : Nat → ClassId) (ad : Nat → Nat) (A : Nat → Prop) (ls : Array Slot),
    z_C M p s m meth c → z_G D cy ad A s args → z_rm w d R cells slots → z_ho D cy ad A w μ s H locs → z_lo ad M.2.2.1 ls lo → z_all sk → z_allo lo → z_ok μ w →
    W p l e R s m args below meth c H locs cells slots (MQ below (z_Q D cy ad A w Q) args s (cells + (w.2.1 - w.1)) (slots + z_sl w.1 w.2.1) A) (F0 m pc ls (sk.map (z_val ad)))
section ZR
variable {M : z_M} {pc : Nat} {lo lo' : List (Option z_V)} {sk : List z_V} {w : z_W} {μ : z_Mem} {d : Nat} {Q : Option z_V → z_Mem → Prop} {a b x y : Int}
theorem z_sl_nil (n : Nat) : z_sl n n = 0 := by
  unfold z_sl
  have : (z_sh.take n).drop n = [] := List.drop_eq_nil_of_le (by simp; omega)
  rw [this]
  rfl
/-- what is known of all: numbers within their ranges -/
theorem z_use (h : z_all sk → z_allo lo → z_ok μ w → z_R M pc lo sk w μ d Q) : z_R M pc lo sk w μ d Q :=
  fun p l e R s m args below meth c H locs cells slots D cy ad A ls hC hG hr hh hl ha hb hk => h ha hb hk p l e R s m args below meth c H locs cells slots D cy ad A ls hC hG hr hh hl ha hb hk
theorem z_iconst {n : Int} (hd : decode M.2.1 pc = .ok (.iconst n, 1)) (hn : z_I n) (h : z_R M (pc + 1) lo ((0, n) :: sk) w μ d Q) : z_R M pc lo sk w μ d Q := by
  intro p l e R s m args below meth c H locs cells slots D cy ad A ls hC hG hr hh hl ha hb hk
  exact lv_iconst (v := Int32.ofInt n) hC.1 hC.2.1 hd rfl (h p l e R s m args below meth c H locs cells slots D cy ad A ls hC hG hr hh hl ⟨hn, ha⟩ hb hk)
theorem z_bipush {n : Int} (hd : decode M.2.1 pc = .ok (.bipush n, 2)) (hn : -128 ≤ n ∧ n ≤ 127) (h : z_R M (pc + 2) lo ((0, n) :: sk) w μ d Q) : z_R M pc lo sk w μ d Q := by
  intro p l e R s m args below meth c H locs cells slots D cy ad A ls hC hG hr hh hl ha hb hk
  refine lv_bipush (v := Int32.ofInt n) hC.1 hC.2.1 hd ?_ (h p l e R s m args below meth c H locs cells slots D cy ad A ls hC hG hr hh hl ⟨⟨by omega, by omega⟩, ha⟩ hb hk)
  apply Int32.toInt_inj.mp
  rw [Int8.toInt_toInt32, Int8.toInt_ofInt_of_le (by omega) (by omega), z_i32 ⟨by omega, by omega⟩]
theorem z_sipush {n : Int} (hd : decode M.2.1 pc = .ok (.sipush n, 3)) (hn : -32768 ≤ n ∧ n ≤ 32767) (h : z_R M (pc + 3) lo ((0, n) :: sk) w μ d Q) : z_R M pc lo sk w μ d Q := by
  intro p l e R s m args below meth c H locs cells slots D cy ad A ls hC hG hr hh hl ha hb hk
  refine lv_sipush (v := Int32.ofInt n) hC.1 hC.2.1 hd ?_ (h p l e R s m args below meth c H locs cells slots D cy ad A ls hC hG hr hh hl ⟨⟨by omega, by omega⟩, ha⟩ hb hk)
  apply Int32.toInt_inj.mp
  rw [Int16.toInt_toInt32, Int16.toInt_ofInt_of_le (by omega) (by omega), z_i32 ⟨by omega, by omega⟩]
theorem z_lconst0 (hd : decode M.2.1 pc = .ok (.lconst 0, 1)) (h : z_R M (pc + 1) lo ((1, 0) :: sk) w μ d Q) : z_R M pc lo sk w μ d Q := by
  intro p l e R s m args below meth c H locs cells slots D cy ad A ls hC hG hr hh hl ha hb hk
  exact lv_lconst (v := Int64.ofInt 0) hC.1 hC.2.1 hd rfl (h p l e R s m args below meth c H locs cells slots D cy ad A ls hC hG hr hh hl ⟨⟨by decide, by decide⟩, ha⟩ hb hk)
theorem z_lconst1 (hd : decode M.2.1 pc = .ok (.lconst 1, 1)) (h : z_R M (pc + 1) lo ((1, 1) :: sk) w μ d Q) : z_R M pc lo sk w μ d Q := by
  intro p l e R s m args below meth c H locs cells slots D cy ad A ls hC hG hr hh hl ha hb hk
  exact lv_lconst (v := Int64.ofInt 1) hC.1 hC.2.1 hd rfl (h p l e R s m args below meth c H locs cells slots D cy ad A ls hC hG hr hh hl ⟨⟨by decide, by decide⟩, ha⟩ hb hk)
theorem z_ldc {idx : Nat} {n : Int} (hd : decode M.2.1 pc = .ok (.ldc idx, 2)) (hw : Cond.constant M.1.cls idx (Int32.ofInt n) ∈ z_gw) (hn : z_I n) (h : z_R M (pc + 2) lo ((0, n) :: sk) w μ d Q) : z_R M pc lo sk w μ d Q := by
  intro p l e R s m args below meth c H locs cells slots D cy ad A ls hC hG hr hh hl ha hb hk
  exact lv_ldc (v := Int32.ofInt n) hC.1 hC.2.1 hC.2.2.2.2.1 (hG.1 _ hw) hd (h p l e R s m args below meth c H locs cells slots D cy ad A ls hC hG hr hh hl ⟨hn, ha⟩ hb hk)
theorem z_ldc2 {idx : Nat} {n : Int} (hd : decode M.2.1 pc = .ok (.ldc2_w idx, 3)) (hw : Cond.constantLong M.1.cls idx (Int64.ofInt n) ∈ z_gw) (hn : z_J n) (h : z_R M (pc + 3) lo ((1, n) :: sk) w μ d Q) : z_R M pc lo sk w μ d Q := by
  intro p l e R s m args below meth c H locs cells slots D cy ad A ls hC hG hr hh hl ha hb hk
  exact lv_ldc2 (v := Int64.ofInt n) hC.1 hC.2.1 hC.2.2.2.2.1 (hG.1 _ hw) hd (h p l e R s m args below meth c H locs cells slots D cy ad A ls hC hG hr hh hl ⟨hn, ha⟩ hb hk)
theorem z_iload_n {k : Fin 4} (hd : decode M.2.1 pc = .ok (.iload_n k, 1)) (hv : lo[(k : Nat)]? = some (some (0, x))) (h : z_R M (pc + 1) lo ((0, x) :: sk) w μ d Q) : z_R M pc lo sk w μ d Q := by
  intro p l e R s m args below meth c H locs cells slots D cy ad A ls hC hG hr hh hl ha hb hk
  exact lv_iload_n (x := Int32.ofInt x) hC.1 hC.2.1 hd rfl (hl.2.2 _ _ hv) (h p l e R s m args below meth c H locs cells slots D cy ad A ls hC hG hr hh hl ⟨hb _ _ hv, ha⟩ hb hk)
theorem z_iload {i : Nat} (hd : decode M.2.1 pc = .ok (.iload i, 2)) (hv : lo[i]? = some (some (0, x))) (h : z_R M (pc + 2) lo ((0, x) :: sk) w μ d Q) : z_R M pc lo sk w μ d Q := by
  intro p l e R s m args below meth c H locs cells slots D cy ad A ls hC hG hr hh hl ha hb hk
  exact lv_iload (x := Int32.ofInt x) hC.1 hC.2.1 hd (hl.2.2 _ _ hv) (h p l e R s m args below meth c H locs cells slots D cy ad A ls hC hG hr hh hl ⟨hb _ _ hv, ha⟩ hb hk)
theorem z_lload_n {k : Fin 4} (hd : decode M.2.1 pc = .ok (.lload_n k, 1)) (hv : lo[(k : Nat)]? = some (some (1, x))) (h : z_R M (pc + 1) lo ((1, x) :: sk) w μ d Q) : z_R M pc lo sk w μ d Q := by
  intro p l e R s m args below meth c H locs cells slots D cy ad A ls hC hG hr hh hl ha hb hk
  exact lv_lload_n (x := Int64.ofInt x) hC.1 hC.2.1 hd rfl (hl.2.2 _ _ hv) (h p l e R s m args below meth c H locs cells slots D cy ad A ls hC hG hr hh hl ⟨hb _ _ hv, ha⟩ hb hk)
theorem z_lload {i : Nat} (hd : decode M.2.1 pc = .ok (.lload i, 2)) (hv : lo[i]? = some (some (1, x))) (h : z_R M (pc + 2) lo ((1, x) :: sk) w μ d Q) : z_R M pc lo sk w μ d Q := by
  intro p l e R s m args below meth c H locs cells slots D cy ad A ls hC hG hr hh hl ha hb hk
  exact lv_lload (x := Int64.ofInt x) hC.1 hC.2.1 hd (hl.2.2 _ _ hv) (h p l e R s m args below meth c H locs cells slots D cy ad A ls hC hG hr hh hl ⟨hb _ _ hv, ha⟩ hb hk)
theorem z_rf0 {ad : Nat → Nat} : z_val ad (2, 0) = .null := rfl
theorem z_rfp {ad : Nat → Nat} (h : x ≠ 0) : z_val ad (2, x) = .ref (ad x.toNat) := by
  show va_rf (z_rf ad x) = _
  unfold z_rf
  rw [if_neg h]
  rfl
theorem z_aload_n {k : Fin 4} (hd : decode M.2.1 pc = .ok (.aload_n k, 1)) (hv : lo[(k : Nat)]? = some (some (2, x))) (h : z_R M (pc + 1) lo ((2, x) :: sk) w μ d Q) : z_R M pc lo sk w μ d Q := by
  intro p l e R s m args below meth c H locs cells slots D cy ad A ls hC hG hr hh hl ha hb hk
  have h1 := hl.2.2 _ _ hv
  have h2 := h p l e R s m args below meth c H locs cells slots D cy ad A ls hC hG hr hh hl ⟨hb _ _ hv, ha⟩ hb hk
  by_cases h0 : x = 0
  · subst h0
    exact lv_aload_nN hC.1 hC.2.1 hd rfl h1 h2
  · rw [z_rfp h0] at h1
    rw [List.map_cons, z_rfp h0] at h2
    exact lv_aload_n hC.1 hC.2.1 hd rfl h1 h2
end ZR

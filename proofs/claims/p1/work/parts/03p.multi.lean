/-! new int[n][k], from the machine's own step (the kit has no row for it) -/
section ZG
def z_gR (c : ClassId) (k : Nat) : Cell := { cls := c, slots := Array.replicate k (.int 0), vm := .none }
def z_gO (c : ClassId) (n h0 : Nat) : Nat → Cell
  | 0 => { cls := c, slots := Array.replicate n .null, vm := .none }
  | i + 1 => (z_gO c n h0 i).setSlot i (.ref (h0 + 1 + i))
/-- the state with the outer row and i inner ones -/
def z_gS (s : State) (c r : ClassId) (n k : Nat) : Nat → State
  | 0 => s.pushCell (z_gO c n s.heap.size 0)
  | i + 1 => ((z_gS s c r n k i).pushCell (z_gR r k)).setCell s.heap.size (z_gO c n s.heap.size (i + 1))
theorem z_gO_form (c : ClassId) (n h0 : Nat) : ∀ i : Nat, z_gO c n h0 i = arrV c n (fun j => va_rf (if j < i then some (h0 + 1 + j) else none))
  | 0 => by
    show ({ cls := c, slots := Array.replicate n .null, vm := .none } : Cell) = _
    rw [arrV_new]
    refine congrArg (arrV c n) (funext fun j => ?_)
    rw [if_neg (by omega)]
    rfl
  | i + 1 => by
    show (z_gO c n h0 i).setSlot i (.ref (h0 + 1 + i)) = _
    rw [z_gO_form c n h0 i, arrV_store]
    refine congrArg (arrV c n) (funext fun j => ?_)
    unfold updV
    by_cases e : j = i
    · subst e
      rw [if_pos rfl, if_pos (by omega)]
      rfl
    · by_cases h : j < i
      · rw [if_neg e]
        simp only
        rw [if_pos h, if_pos (by omega)]
      · rw [if_neg e]
        simp only
        rw [if_neg h, if_neg (by omega)]
theorem z_gO_size (c : ClassId) (n h0 i : Nat) : (z_gO c n h0 i).slots.size = n := by rw [z_gO_form, arrV_size]
theorem z_gO_cls (c : ClassId) (n h0 i : Nat) : (z_gO c n h0 i).cls = c ∧ (z_gO c n h0 i).vm = .none := by rw [z_gO_form]; exact ⟨rfl, rfl⟩
theorem z_gS_facts (s : State) (c r : ClassId) (n k : Nat) : ∀ i, (z_gS s c r n k i).heap.size = s.heap.size + 1 + i ∧ (z_gS s c r n k i).heap[s.heap.size]? = some (z_gO c n s.heap.size i) ∧ (z_gS s c r n k i).vm = s.vm ∧ (z_gS s c r n k i).slotsUsed = s.slotsUsed + n + i * k
  | 0 => ⟨by simp [z_gS], by simp [z_gS], rfl, by simp [z_gS, z_gO]⟩
  | i + 1 => by
    obtain ⟨a, b, d, u⟩ := z_gS_facts s c r n k i
    have hlt : s.heap.size < (z_gS s c r n k i).heap.size := by omega
    have hb' : ((z_gS s c r n k i).pushCell (z_gR r k)).heap[s.heap.size]? = some (z_gO c n s.heap.size i) := by rw [State.heap_pushCell_of_lt (h := hlt)]; exact b
    refine ⟨?_, State.heap_setCell_self hb', by simp [z_gS, d], ?_⟩
    · simp [z_gS, State.setCell, a]; omega
    · simp [z_gS, u, z_gR, Nat.succ_mul]; omega
theorem z_gS_top (s : State) (f : JFrame) (c r : ClassId) (n k : Nat) : ∀ i, z_gS (s.setTop f) c r n k i = (z_gS s c r n k i).setTop f
  | 0 => rfl
  | i + 1 => by simp only [z_gS, z_gS_top s f c r n k i, State.heap_setTop, State.pushCell_setTop, State.setCell_setTop]
theorem z_gS_old (s : State) (c r : ClassId) (n k : Nat) {a : Addr} (ha : a < s.heap.size) : ∀ i, (z_gS s c r n k i).heap[a]? = s.heap[a]?
  | 0 => State.heap_pushCell_of_lt _ _ ha
  | i + 1 => by
    have f1 := (z_gS_facts s c r n k i).1
    have hlt : a < (z_gS s c r n k i).heap.size := Nat.lt_of_lt_of_le ha (by rw [f1]; omega)
    show (((z_gS s c r n k i).pushCell (z_gR r k)).setCell s.heap.size _).heap[a]? = _
    rw [State.heap_setCell_other (Nat.ne_of_gt ha), State.heap_pushCell_of_lt (h := hlt)]
    exact z_gS_old s c r n k ha i
theorem z_gS_row (s : State) (c r : ClassId) (n k : Nat) : ∀ i j, j < i → (z_gS s c r n k i).heap[s.heap.size + 1 + j]? = some (z_gR r k)
  | 0, _, h => absurd h (Nat.not_lt_zero _)
  | i + 1, j, h => by
    have f1 := (z_gS_facts s c r n k i).1
    show (((z_gS s c r n k i).pushCell (z_gR r k)).setCell s.heap.size _).heap[s.heap.size + 1 + j]? = _
    rw [State.heap_setCell_other (show s.heap.size ≠ s.heap.size + 1 + j by omega)]
    rcases Nat.lt_or_ge j i with hj | hj
    · have hlt : s.heap.size + 1 + j < (z_gS s c r n k i).heap.size := by rw [f1]; omega
      rw [State.heap_pushCell_of_lt (h := hlt)]
      exact z_gS_row s c r n k i j hj
    · have e : j = i := by omega
      subst e
      rw [← f1]
      exact State.heap_pushCell_size _ _
theorem z_wpA {E : CtlPost} {e : Env} {d : Bool} {acts : List Action} {s : State} {c comp : ClassId} {k : Class} {type : FieldType} {len : Nat} {init : Value} (hk : s.vm.classes[c]? = some k) (hkind : k.kind = .array comp type)
    (hlimit : ¬ len > e.platform.arrayLengthLimit) (hheap : ¬ len * componentBytes type > e.platform.maxHeapBytes) (hfit : fits type init = true) (hdef : init.isDefault = true) {Q : Addr → Pre}
    (h1 : s.heap.size < e.platform.maxCells) (h2 : s.slotsUsed + len ≤ e.platform.maxSlots)
    (hq : Q s.heap.size d acts (s.pushCell { cls := c, slots := Array.replicate len init, vm := .none })) : wp (Jvm.newArray c len init) Q E e d acts s := by
  have hfits : ∀ i v, (Array.replicate len init)[i]? = some v → s.fitsSlot c .none i v = true := by
    intro i v hv
    simp only [Array.getElem?_replicate] at hv
    split at hv
    · cases hv
      simp [State.fitsSlot, State.slotType?, hk, hkind, hfit]
    · cases hv
  have hda : allocActs (Array.replicate len init) s.heap.size acts = acts := by
    have hall : ((Array.replicate len init).all (·.isDefault)) = true := by
      rw [Array.all_replicate]
      split <;> simp [hdef]
    unfold allocActs
    rw [if_pos hall]
  simp only [Jvm.newArray, Jvm.arrayFits, wp_bind', W.ask, W.ite, hlimit, if_false, wp_pure', W.theClass, hk, hkind, hheap, W.alloc, W.stop, Option.some.injEq, exists_eq_left', Array.size_replicate, hda]
  rw [if_neg (by omega)]
  exact ⟨h1, h2, hfits, hq⟩
theorem z_wpG {E : CtlPost} {e : Env} {d : Bool} {acts : List Action} {s : State} {c comp cc : ClassId} {k kc : Class} {n m : Int32} (hk : s.vm.classes[c]? = some k) (hkind : k.kind = .array comp (.array .int))
    (hkc : s.vm.classes[comp]? = some kc) (hkindc : kc.kind = .array cc .int) (hn : ¬ n < 0) (hm : ¬ m < 0)
    (hl1 : ¬ n.toNatClampNeg > e.platform.arrayLengthLimit) (hh1 : ¬ n.toNatClampNeg * componentBytes (.array .int) > e.platform.maxHeapBytes)
    (hl2 : ¬ m.toNatClampNeg > e.platform.arrayLengthLimit) (hh2 : ¬ m.toNatClampNeg * componentBytes .int > e.platform.maxHeapBytes)
    (hc : s.heap.size + 1 + n.toNatClampNeg ≤ e.platform.maxCells) (hs : s.slotsUsed + n.toNatClampNeg + n.toNatClampNeg * m.toNatClampNeg ≤ e.platform.maxSlots)
    {Q : Addr → Pre} (hq : ∀ d' acts', Q s.heap.size d' acts' (z_gS s c comp n.toNatClampNeg m.toNatClampNeg n.toNatClampNeg)) : wp (multianewarray.make c [n, m]) Q E e d acts s := by
  have hfind : ([m].find? (· < 0)) = none := by simp [hm]
  rw [multianewarray.make]
  simp only [wp_bind', W.ite, hn, if_false, wp_pure', W.theClass, hk, hkind, Option.some.injEq, exists_eq_left']
  refine z_wpA hk hkind hl1 hh1 rfl rfl (by omega) (by have := Nat.zero_le (n.toNatClampNeg * m.toNatClampNeg); omega) ?_
  simp only [hfind]
  rw [ite_self, wp_bind', Std.Legacy.Range.forIn_eq_forIn_range']
  have hsz : ([:n.toNatClampNeg] : Std.Legacy.Range).size = n.toNatClampNeg := by simp [Std.Legacy.Range.size]
  rw [hsz]
  show wp (forIn (List.range' 0 n.toNatClampNeg 1) PUnit.unit _) _ E e d acts _
  refine wp_forIn_inv (fun rest s' => ∃ i, i ≤ n.toNatClampNeg ∧ rest = List.range' i (n.toNatClampNeg - i) ∧ s' = z_gS s c comp n.toNatClampNeg m.toNatClampNeg i) _ _ ⟨0, Nat.zero_le _, rfl, rfl⟩ ?_ ?_
  · rintro x rest s' d' acts' Q' ⟨i, hi, hl, rfl⟩ hnext
    have hlt : i < n.toNatClampNeg := by
      rcases Nat.lt_or_ge i n.toNatClampNeg with h | h
      · exact h
      · rw [show n.toNatClampNeg - i = 0 from by omega] at hl
        simp at hl
    obtain ⟨rfl, hrest⟩ : x = i ∧ rest = List.range' (i + 1) (n.toNatClampNeg - (i + 1)) := by
      rw [show n.toNatClampNeg - i = (n.toNatClampNeg - (i + 1)) + 1 from by omega, List.range'_succ] at hl
      exact ⟨(List.cons.inj hl).1, (List.cons.inj hl).2⟩
    obtain ⟨f1, f2, f3, f4⟩ := z_gS_facts s c comp n.toNatClampNeg m.toNatClampNeg x
    have hmul : x * m.toNatClampNeg + m.toNatClampNeg ≤ n.toNatClampNeg * m.toNatClampNeg := by
      have := Nat.mul_le_mul_right m.toNatClampNeg (show x + 1 ≤ n.toNatClampNeg from hlt)
      rw [Nat.succ_mul] at this
      exact this
    simp only [wp_bind']
    rw [multianewarray.make]
    simp only [wp_bind', W.ite, hm, if_false, wp_pure', W.theClass, f3, hkc, hkindc, Option.some.injEq, exists_eq_left']
    refine z_wpA (by rw [f3]; exact hkc) hkindc hl2 hh2 rfl rfl (by rw [f1]; omega) (by rw [f4]; omega) ?_
    have hlt0 : s.heap.size < (z_gS s c comp n.toNatClampNeg m.toNatClampNeg x).heap.size := by rw [f1]; omega
    simp only [wp_bind', W.writeLoc, wp_pure']
    refine ⟨z_gO c n.toNatClampNeg s.heap.size x, by rw [State.heap_pushCell_of_lt (h := hlt0)]; exact f2, by rw [(z_gO_cls _ _ _ _).2]; simp, by rw [z_gO_size]; exact hlt, ?_, hnext _ _ _ ⟨x + 1, hlt, hrest, ?_⟩⟩
    · rw [(z_gO_cls _ _ _ _).1, (z_gO_cls _ _ _ _).2]
      simp [State.fitsSlot, State.slotType?, f3, hk, hkind, fits]
    · rw [f1]
      rfl
  · rintro s' d' acts' ⟨i, hi, hl, rfl⟩
    have hiN : i = n.toNatClampNeg := by
      rcases Nat.lt_or_ge i n.toNatClampNeg with h | h
      · rw [show n.toNatClampNeg - i = (n.toNatClampNeg - (i + 1)) + 1 from by omega, List.range'_succ] at hl
        cases hl
      · omega
    subst hiN
    simp only [wp_pure']
    exact hq _ _
variable {p : Program} {l : Launch} {e : Env} {R : Room} {s : State} {m : MethodId} {args : Array Value} {below : List Frame} {meth : Method} {c : Code} {T : State} {locs : List Loc} {cells slots : Nat}
theorem z_gS_stand (X : Stand p l e R s m args below meth c T locs cells slots) (cA r : ClassId) (n k : Nat) : ∀ i, Stand p l e R s m args below meth c (z_gS T cA r n k i) (locs ++ (List.range i).map fun j => ⟨T.heap.size, j⟩) (cells + 1 + i) (slots + n + i * k)
  | 0 => by
    have h := X.pushed (z_gO cA n T.heap.size 0)
    rw [z_gO_size] at h
    simpa [z_gS] using h
  | i + 1 => by
    have Xi := z_gS_stand X cA r n k i
    obtain ⟨f1, f2, f3, f4⟩ := z_gS_facts T cA r n k i
    have hlt0 : T.heap.size < (z_gS T cA r n k i).heap.size := by rw [f1]; omega
    have hcell : ((z_gS T cA r n k i).pushCell (z_gR r k)).heap[T.heap.size]? = some (z_gO cA n T.heap.size i) := by rw [State.heap_pushCell_of_lt (h := hlt0)]; exact f2
    have h := (Xi.pushed (z_gR r k)).stored hcell i (.ref (T.heap.size + 1 + i))
    have e1 : (z_gR r k).slots.size = k := by simp [z_gR]
    rw [e1] at h
    have e2 : (locs ++ (List.range (i + 1)).map fun j => (⟨T.heap.size, j⟩ : Loc)) = (locs ++ (List.range i).map fun j => (⟨T.heap.size, j⟩ : Loc)) ++ [⟨T.heap.size, i⟩] := by simp [List.range_succ, List.append_assoc]
    have e3 : slots + n + (i + 1) * k = slots + n + i * k + k := by rw [Nat.succ_mul]; omega
    rw [e2, e3]
    exact h
theorem z_WmultiG {cc : ByteArray} {H : Heap} {Q : State → Prop} {own : String} {index : Nat} {g : JFrame} {rest : List Value} {cR : ClassId} (hg : g.method = m) (hexec : p.tables.exec = Jvm.exec) (hb : c.code = cc) (hown : s.vm.findClass own = some m.cls) (hclink : (Cond.classLink own index ("[" ++ (FieldType.array .int).toString)).before args s = true)
    (hover : (Cond.arrayOver (.array .int)).before #[] s = true) (harr : (Cond.arrayClass .int).before args s = true) (hcR : s.vm.findClass (FieldType.array .int).toString = some cR) (hdg : decode cc g.pc = .ok (.multianewarray index 2, 4)) {n k : Int32} (hstack : g.stack = .int k :: .int n :: rest)
    (hn : ¬ n < 0) (hk : ¬ k < 0) (hb1 : n.toNatClampNeg * 4 ≤ 536870912) (hb2 : k.toNatClampNeg * 4 ≤ 536870912) (hcells : cells + (1 + n.toNatClampNeg) ≤ R.cells) (hslots : slots + (n.toNatClampNeg + n.toNatClampNeg * k.toNatClampNeg) ≤ R.slots)
    (kk : ∀ (cA : ClassId) (H1 : Heap) (locs1 : List Loc), s.vm.findClass ("[" ++ (FieldType.array .int).toString) = some cA → H1.size = H.size + 1 + n.toNatClampNeg → (∀ a, a < H.size → H1[a]? = H[a]?) →
      H1[H.size]? = some (arrV cA n.toNatClampNeg (fun j => va_rf (if j < n.toNatClampNeg then some (H.size + 1 + j) else none))) → (∀ j, j < n.toNatClampNeg → H1[H.size + 1 + j]? = some (arrV cR k.toNatClampNeg (fun _ => .int 0))) → (∀ q ∈ locs1, q ∈ locs ∨ q.base = H.size) →
      W p l e R s m args below meth c H1 locs1 (cells + 1 + n.toNatClampNeg) (slots + n.toNatClampNeg + n.toNatClampNeg * k.toNatClampNeg) Q { g with pc := g.pc + 4, stack := .ref H.size :: rest }) : W p l e R s m args below meth c H locs cells slots Q g := by
  intro T hT X
  subst hT
  subst hb
  subst hg
  have hpl : e.platform.magicAccessors = ({} : Platform).magicAccessors := by rw [X.admits.platform]
  have hover' := hover
  simp only [Cond.before, Cond.holds, Cond.value, beq_iff_eq, Option.bind_eq_some_iff, Option.map_eq_some_iff] at hover'
  obtain ⟨comp, hcomp, cA, hfind, kA, hkA, hkk⟩ := hover'
  obtain ⟨hlt, hp, -⟩ := Array.findIdx?_eq_some_iff_getElem.mp hfind
  have hkeq : s.vm.classes[cA] = kA := (Array.getElem?_eq_some_iff.mp hkA).2
  rw [hkeq] at hp
  have hcc : comp = cR := Option.some.inj (hcomp.symm.trans hcR)
  subst hcc
  obtain ⟨hkindA, hnameA⟩ : kA.kind = .array comp (.array .int) ∧ s.vm.findClass ("[" ++ (FieldType.array .int).toString) = some cA := by
    cases hkind : kA.kind with
    | array component ty =>
      rw [hkind] at hkk hp
      simp at hkk hp
      exact ⟨by rw [hp, hkk.1], hkk.2⟩
    | _ => rw [hkind] at hkk; simp at hkk
  obtain ⟨comp', kC, cc, hcomp', hkC, hkindC⟩ := Cond.arrayClass_spec harr
  have ecomp : comp' = comp := Option.some.inj (hcomp'.symm.trans hcomp)
  subst ecomp
  obtain ⟨c0, hfc0, hcl⟩ := Cond.classLink_spec hown hclink e.platform hpl
  cases hnameA.symm.trans hfc0
  obtain ⟨hg₁, hwarm₁, hready₁⟩ := State.classEntry (e := e) X.warmed hcl
  generalize T.vm.noted g.method.cls index (.cls cA) = vm₁ at hg₁ hwarm₁ hready₁
  have hal : s.vm.Alike vm₁ := hwarm₁.alike
  obtain ⟨kA₁, hkA₁, heA⟩ := hal.2.2 _ _ hkA
  obtain ⟨kC₁, hkC₁, heC⟩ := hal.2.2 _ _ hkC
  have hkindA₁ : kA₁.kind = .array comp' (.array .int) := by rw [heA]; exact hkindA
  have hkindC₁ : kC₁.kind = .array cc .int := by rw [heC]; exact hkindC
  have X₁ := X.noted hwarm₁
  obtain ⟨hr1, hr2⟩ := X.roomAbove hcells hslots
  have XF := z_gS_stand X₁ cA comp' n.toNatClampNeg k.toNatClampNeg n.toNatClampNeg
  have hTh : (T.setVm vm₁).heap = T.heap := rfl
  obtain ⟨f1, f2, f3, f4⟩ := z_gS_facts (T.setVm vm₁) cA comp' n.toNatClampNeg k.toNatClampNeg n.toNatClampNeg
  rw [hTh] at f1 f2
  obtain ⟨t, a1, b1⟩ := kk cA (z_gS (T.setVm vm₁) cA comp' n.toNatClampNeg k.toNatClampNeg n.toNatClampNeg).heap _ hnameA f1 (fun a ha => z_gS_old (T.setVm vm₁) cA comp' n.toNatClampNeg k.toNatClampNeg ha _) (by rw [f2, z_gO_form]) (fun j hj => by
    have := z_gS_row (T.setVm vm₁) cA comp' n.toNatClampNeg k.toNatClampNeg _ j hj
    rw [hTh] at this
    rw [this]
    unfold z_gR
    rw [arrV_new]) (fun q hq => by
      rcases List.mem_append.mp hq with h | h
      · exact Or.inl h
      · obtain ⟨j, -, rfl⟩ := List.mem_map.mp h
        exact Or.inr rfl) _ rfl XF
  refine ⟨t, ?_, b1⟩
  have hl1 : ¬ n.toNatClampNeg > e.platform.arrayLengthLimit := by rw [Launch.admits_arrayLengthLimit X.admits]; omega
  have hh1 : ¬ n.toNatClampNeg * componentBytes (.array .int) > e.platform.maxHeapBytes := by
    rw [Launch.admits_maxHeapBytes X.admits]; show ¬ n.toNatClampNeg * 4 > 536870912; omega
  have hl2 : ¬ k.toNatClampNeg > e.platform.arrayLengthLimit := by rw [Launch.admits_arrayLengthLimit X.admits]; omega
  have hh2 : ¬ k.toNatClampNeg * componentBytes .int > e.platform.maxHeapBytes := by rw [Launch.admits_maxHeapBytes X.admits]; show ¬ k.toNatClampNeg * 4 > 536870912; omega
  jvm_step X.here [hexec, hdg]
  simp only [multianewarray.sem, wp_bind', W.resolveClassAt_links (State.method?_setTop g X.here.top) hg₁]
  rw [W.popN, if_neg (by decide)]
  refine ⟨g, State.topJava?_setTop' (s := T.setVm vm₁) g X.here.top, [.int n, .int k], rest, rfl, hstack, ?_⟩
  simp only [List.mapM_cons, List.mapM_nil, wp_bind', wp_pure']
  refine z_wpG (k := kA₁) (kc := kC₁) (comp := comp') (cc := cc) hkA₁ hkindA₁ hkC₁ hkindC₁ hn hk hl1 hh1 hl2 hh2 (by show T.heap.size + 1 + _ ≤ _; omega) (by show T.slotsUsed + _ + _ ≤ _; omega) (fun d' acts' => ?_)
  have eS : ((T.setTop g).setVm vm₁).setTop { g with stack := rest } = (T.setVm vm₁).setTop { g with stack := rest } := by
    show ((T.setVm vm₁).setTop _).setTop _ = _
    rw [State.setTop_setTop]
  rw [eS, z_gS_top]
  simp only [wp_bind', W.mark, W.pushRef, State.topJava?_setTop' _ XF.here.top, Option.some.injEq, exists_eq_left', State.setTop_setTop, State.heap_setTop]
  intro acts
  simp [jvm, XF.here.top]
  exact a1
theorem z_Wmulti {cc : ByteArray} {H : Heap} {Q : State → Prop} {own : String} {index pc : Nat} {ls : Array Slot} {rest : List Value} {cR : ClassId} (hexec : p.tables.exec = Jvm.exec) (hb : c.code = cc) (hown : s.vm.findClass own = some m.cls) (hclink : (Cond.classLink own index ("[" ++ (FieldType.array .int).toString)).before args s = true)
    (hover : (Cond.arrayOver (.array .int)).before #[] s = true) (harr : (Cond.arrayClass .int).before args s = true) (hcR : s.vm.findClass (FieldType.array .int).toString = some cR) (hdg : decode cc pc = .ok (.multianewarray index 2, 4)) {n k : Int32}
    (hn : ¬ n < 0) (hk : ¬ k < 0) (hb1 : n.toNatClampNeg * 4 ≤ 536870912) (hb2 : k.toNatClampNeg * 4 ≤ 536870912) (hcells : cells + (1 + n.toNatClampNeg) ≤ R.cells) (hslots : slots + (n.toNatClampNeg + n.toNatClampNeg * k.toNatClampNeg) ≤ R.slots)
    (kk : ∀ (cA : ClassId) (H1 : Heap) (locs1 : List Loc), s.vm.findClass ("[" ++ (FieldType.array .int).toString) = some cA → H1.size = H.size + 1 + n.toNatClampNeg → (∀ a, a < H.size → H1[a]? = H[a]?) →
      H1[H.size]? = some (arrV cA n.toNatClampNeg (fun j => va_rf (if j < n.toNatClampNeg then some (H.size + 1 + j) else none))) → (∀ j, j < n.toNatClampNeg → H1[H.size + 1 + j]? = some (arrV cR k.toNatClampNeg (fun _ => .int 0))) → (∀ q ∈ locs1, q ∈ locs ∨ q.base = H.size) →
      W p l e R s m args below meth c H1 locs1 (cells + 1 + n.toNatClampNeg) (slots + n.toNatClampNeg + n.toNatClampNeg * k.toNatClampNeg) Q (F0 m (pc + 4) ls (.ref H.size :: rest))) : W p l e R s m args below meth c H locs cells slots Q (F0 m pc ls (.int k :: .int n :: rest)) :=
  z_WmultiG (g := F0 m pc ls (.int k :: .int n :: rest)) rfl hexec hb hown hclink hover harr hcR hdg rfl hn hk hb1 hb2 hcells hslots kk
end ZG

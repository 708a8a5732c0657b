/-- the locals behind a store -/
def z_fix (l2 : List (Option z_V)) (lo : List (Option z_V)) (i : Nat) : List (Option z_V) := match i with
  | 0 => l2
  | k + 1 => match lo[k]? with
    | some (some (1, _)) => l2.set k none
    | _ => l2
def z_stl (lo : List (Option z_V)) (i : Nat) (v : z_V) : List (Option z_V) := z_fix (lo.set i (some v)) lo i
def z_stl2 (lo : List (Option z_V)) (i : Nat) (v : z_V) : List (Option z_V) := z_fix ((lo.set i (some v)).set (i + 1) none) lo i
theorem z_fix_get {l2 lo : List (Option z_V)} {i j : Nat} {v : z_V} (h : (z_fix l2 lo i)[j]? = some (some v)) : l2[j]? = some (some v) ∧ (j + 1 = i → ∀ u, lo[j]? = some (some u) → u.1 ≠ 1) := by
  unfold z_fix at h
  cases i with
  | zero => exact ⟨h, fun q => by omega⟩
  | succ k =>
    simp only at h
    split at h
    · rename_i x hx
      by_cases hj : k = j
      · subst hj
        rw [List.getElem?_set] at h
        simp only [if_true] at h
        split at h <;> cases h
      · rw [List.getElem?_set_ne hj] at h
        exact ⟨h, fun q => by omega⟩
    · rename_i hne
      refine ⟨h, fun q u hu h1 => ?_⟩
      have : j = k := by omega
      subst this
      obtain ⟨u1, u2⟩ := u
      simp only at h1
      subst h1
      exact hne u2 hu
def z_ll (ad : Nat → Nat) (lo : List (Option z_V)) : List (Nat × Value) := (List.range lo.length).filterMap (fun i => match lo[i]? with
  | some (some v) => some (i, z_val ad v)
  | _ => none)
theorem z_ll_mem {ad : Nat → Nat} {lo : List (Option z_V)} {q : Nat × Value} : q ∈ z_ll ad lo ↔ ∃ v, lo[q.1]? = some (some v) ∧ q.2 = z_val ad v := by
  unfold z_ll
  rw [List.mem_filterMap]
  constructor
  · rintro ⟨i, hi, h⟩
    split at h
    · rename_i v hv
      cases h
      exact ⟨v, hv, rfl⟩
    · cases h
  · rintro ⟨v, hv, h⟩
    refine ⟨q.1, List.mem_range.mpr (List.getElem?_eq_some_iff.mp hv).1, ?_⟩
    rw [hv]
    obtain ⟨a, b⟩ := q
    simp only at h ⊢
    rw [h]
theorem z_lo_has {ad : Nat → Nat} {nL : Nat} {ls : Array Slot} {lo : List (Option z_V)} (h : z_lo ad nL ls lo) : lv_has ls nL (z_ll ad lo) := ⟨h.1, h.2.1, fun q hq => by
  obtain ⟨v, h1, h2⟩ := z_ll_mem.mp hq
  rw [h2]
  exact h.2.2 _ _ h1⟩
theorem z_cat_one {ad : Nat → Nat} {v : z_V} : (z_val ad v).category = 2 ↔ v.1 = 1 := by
  rw [z_catc]
  unfold z_cat
  split <;> simp_all
theorem z_lo_st {ad : Nat → Nat} {nL i : Nat} {ls' : Array Slot} {lo : List (Option z_V)} {v : z_V} (hlen : i < lo.length) (h : lv_has ls' nL ((i, z_val ad v) :: (z_ll ad lo).filter (fun q => !(q.1 == i) && !(q.1 + 1 == i && q.2.category == 2)))) : z_lo ad nL ls' (z_stl lo i v) := by
  refine ⟨h.1, h.2.1, fun j u hu => ?_⟩
  obtain ⟨h1, h2⟩ := z_fix_get hu
  by_cases hj : i = j
  · subst hj
    rw [List.getElem?_set_self hlen] at h1
    cases h1
    exact h.2.2 (i, z_val ad v) List.mem_cons_self
  · rw [List.getElem?_set_ne hj] at h1
    refine h.2.2 (j, z_val ad u) (List.mem_cons_of_mem _ (List.mem_filter.mpr ⟨z_ll_mem.mpr ⟨u, h1, rfl⟩, ?_⟩))
    simp only [Bool.and_eq_true, Bool.not_eq_true', beq_eq_false_iff_ne, Bool.and_eq_false_iff]
    refine ⟨fun q => hj q.symm, ?_⟩
    by_cases h3 : j + 1 = i
    · right
      intro q
      exact h2 h3 u h1 (z_cat_one.mp q)
    · left
      exact h3
theorem z_lo_st2 {ad : Nat → Nat} {nL i : Nat} {ls' : Array Slot} {lo : List (Option z_V)} {v : z_V} (hlen : i < lo.length) (h : lv_has ls' nL ((i, z_val ad v) :: (z_ll ad lo).filter (fun q => !(q.1 == i) && (!(q.1 == i + 1) && !(q.1 + 1 == i && q.2.category == 2))))) : z_lo ad nL ls' (z_stl2 lo i v) := by
  refine ⟨h.1, h.2.1, fun j u hu => ?_⟩
  obtain ⟨h1, h2⟩ := z_fix_get hu
  by_cases hj2 : i + 1 = j
  · subst hj2
    rw [List.getElem?_set] at h1
    simp only [if_true] at h1
    split at h1 <;> cases h1
  rw [List.getElem?_set_ne hj2] at h1
  by_cases hj : i = j
  · subst hj
    rw [List.getElem?_set_self hlen] at h1
    cases h1
    exact h.2.2 (i, z_val ad v) List.mem_cons_self
  · rw [List.getElem?_set_ne hj] at h1
    refine h.2.2 (j, z_val ad u) (List.mem_cons_of_mem _ (List.mem_filter.mpr ⟨z_ll_mem.mpr ⟨u, h1, rfl⟩, ?_⟩))
    simp only [Bool.and_eq_true, Bool.not_eq_true', beq_eq_false_iff_ne, Bool.and_eq_false_iff]
    refine ⟨fun q => hj q.symm, fun q => hj2 q.symm, ?_⟩
    by_cases h3 : j + 1 = i
    · right
      intro q
      exact h2 h3 u h1 (z_cat_one.mp q)
    · left
      exact h3
theorem z_allo_fix {l2 lo : List (Option z_V)} {i : Nat} (h : z_allo l2) : z_allo (z_fix l2 lo i) := fun j v hv => h j v (z_fix_get hv).1
theorem z_allo_set {lo : List (Option z_V)} {i : Nat} {v : z_V} (h : z_allo lo) (hv : z_rv v) : z_allo (lo.set i (some v)) := fun j u hu => by
  by_cases hj : i = j
  · subst hj
    rw [List.getElem?_set] at hu
    simp only [if_true] at hu
    split at hu
    · cases hu
      exact hv
    · cases hu
  · rw [List.getElem?_set_ne hj] at hu
    exact h j u hu
theorem z_allo_setn {lo : List (Option z_V)} {i : Nat} (h : z_allo lo) : z_allo (lo.set i none) := fun j u hu => by
  by_cases hj : i = j
  · subst hj
    rw [List.getElem?_set] at hu
    simp only [if_true] at hu
    split at hu <;> cases hu
  · rw [List.getElem?_set_ne hj] at hu
    exact h j u hu
section ZL
variable {M : z_M} {pc : Nat} {lo lo' : List (Option z_V)} {sk : List z_V} {w : z_W} {μ : z_Mem} {d : Nat} {Q : Option z_V → z_Mem → Prop} {a b x y : Int}
theorem z_istore_n {k : Fin 4} (hd : decode M.2.1 pc = .ok (.istore_n k, 1)) (hi : (k : Nat) < lo.length) (hi2 : (k : Nat) < M.2.2.1) (h : z_R M (pc + 1) (z_stl lo k (0, x)) sk w μ d Q) : z_R M pc lo ((0, x) :: sk) w μ d Q := by
  intro p l e R s m args below meth c H locs cells slots D cy ad A ls hC hG hr hh hl ha hb hk
  exact lv_istore_n (x := Int32.ofInt x) hC.1 hC.2.1 hd rfl (z_lo_has hl) hi2 rfl (fun ls' h1 => h p l e R s m args below meth c H locs cells slots D cy ad A ls' hC hG hr hh (z_lo_st hi h1) ha.2 (z_allo_fix (z_allo_set hb ha.1)) hk)
theorem z_istore {i : Nat} (hd : decode M.2.1 pc = .ok (.istore i, 2)) (hi : i < lo.length) (hi2 : i < M.2.2.1) (h : z_R M (pc + 2) (z_stl lo i (0, x)) sk w μ d Q) : z_R M pc lo ((0, x) :: sk) w μ d Q := by
  intro p l e R s m args below meth c H locs cells slots D cy ad A ls hC hG hr hh hl ha hb hk
  exact lv_istore (x := Int32.ofInt x) hC.1 hC.2.1 hd (z_lo_has hl) hi2 rfl (fun ls' h1 => h p l e R s m args below meth c H locs cells slots D cy ad A ls' hC hG hr hh (z_lo_st hi h1) ha.2 (z_allo_fix (z_allo_set hb ha.1)) hk)
theorem z_lstore_n {k : Fin 4} (hd : decode M.2.1 pc = .ok (.lstore_n k, 1)) (hi : (k : Nat) < lo.length) (hi2 : (k : Nat) + 1 < M.2.2.1) (h : z_R M (pc + 1) (z_stl2 lo k (1, x)) sk w μ d Q) : z_R M pc lo ((1, x) :: sk) w μ d Q := by
  intro p l e R s m args below meth c H locs cells slots D cy ad A ls hC hG hr hh hl ha hb hk
  exact lv_lstore_n (x := Int64.ofInt x) hC.1 hC.2.1 hd rfl (z_lo_has hl) hi2 rfl (fun ls' h1 => h p l e R s m args below meth c H locs cells slots D cy ad A ls' hC hG hr hh (z_lo_st2 hi h1) ha.2 (z_allo_fix (z_allo_setn (z_allo_set hb ha.1))) hk)
theorem z_astore_n {k : Fin 4} (hd : decode M.2.1 pc = .ok (.astore_n k, 1)) (hx : x ≠ 0) (hi : (k : Nat) < lo.length) (hi2 : (k : Nat) < M.2.2.1) (h : z_R M (pc + 1) (z_stl lo k (2, x)) sk w μ d Q) : z_R M pc lo ((2, x) :: sk) w μ d Q := by
  intro p l e R s m args below meth c H locs cells slots D cy ad A ls hC hG hr hh hl ha hb hk
  rw [List.map_cons, z_rfp hx]
  exact lv_astore_n hC.1 hC.2.1 hd rfl (z_lo_has hl) hi2 rfl (fun ls' h1 => h p l e R s m args below meth c H locs cells slots D cy ad A ls' hC hG hr hh (z_lo_st hi (by rw [z_rfp hx]; exact h1)) ha.2 (z_allo_fix (z_allo_set hb ha.1)) hk)
theorem z_iinc {i : Nat} {n : Int} (hd : decode M.2.1 pc = .ok (.iinc i n, 3)) (hv : lo[i]? = some (some (0, x))) (hi2 : i < M.2.2.1) (hs : z_I (x + n)) (h : z_R M (pc + 3) (z_stl lo i (0, x + n)) sk w μ d Q) : z_R M pc lo sk w μ d Q := by
  intro p l e R s m args below meth c H locs cells slots D cy ad A ls hC hG hr hh hl ha hb hk
  have hi := (List.getElem?_eq_some_iff.mp hv).1
  have hm : (i, Value.int (Int32.ofInt x)) ∈ z_ll ad lo := z_ll_mem.mpr ⟨(0, x), hv, rfl⟩
  obtain ⟨k, hk1⟩ := List.getElem?_of_mem hm
  exact lv_iinc (x := Int32.ofInt x) (v := Int32.ofInt (x + n)) hC.1 hC.2.1 hd (z_lo_has hl) hk1 (Int32.ofInt_add x n).symm hi2 rfl (fun ls' h1 => h p l e R s m args below meth c H locs cells slots D cy ad A ls' hC hG hr hh (z_lo_st hi h1) ha (z_allo_fix (z_allo_set hb hs)) hk)
theorem z_ireturn (hd : decode M.2.1 pc = .ok (.ireturn, 1)) (hr : M.2.2.2 = some .int) (hw : w.1 = w.2.1) (h : Q (some (0, x)) μ) : z_R M pc lo [(0, x)] w μ d Q := by
  obtain ⟨w1, w2, w3⟩ := w
  simp only at hw
  subst hw
  intro p l e R s m args below meth c H locs cells slots D cy ad A ls hC hG hrm hh hl ha hb hk
  simp only [Nat.sub_self, Nat.add_zero, z_sl_nil]
  have hlk : meth.locks = false := hC.2.2.2.2.2.1
  exact W.iret (v := Int32.ofInt x) hC.1 hC.2.1 (hC.2.2.1.trans hr) (fun t ht _ => ⟨⟨some (0, x), μ, ad, rfl, fun v hv => by cases hv; exact ha.1, h, fun _ _ => rfl, by rw [ht]; exact hh.1, hh.2.1, hk⟩, hh.2.2.1.F ht⟩) hh.2.2.1.2.2 hd hlk
theorem z_zreturn (hd : decode M.2.1 pc = .ok (.ireturn, 1)) (hr : M.2.2.2 = some .boolean) (hw : w.1 = w.2.1) (hx : x = 0 ∨ x = 1) (h : Q (some (0, x)) μ) : z_R M pc lo [(0, x)] w μ d Q := by
  obtain ⟨w1, w2, w3⟩ := w
  simp only at hw
  subst hw
  intro p l e R s m args below meth c H locs cells slots D cy ad A ls hC hG hrm hh hl ha hb hk
  simp only [Nat.sub_self, Nat.add_zero, z_sl_nil]
  have hlk : meth.locks = false := hC.2.2.2.2.2.1
  exact W.zret (v := Int32.ofInt x) hC.1 hC.2.1 (hC.2.2.1.trans hr) (by rcases hx with rfl | rfl <;> rfl) (fun t ht _ => ⟨⟨some (0, x), μ, ad, rfl, fun v hv => by cases hv; exact ha.1, h, fun _ _ => rfl, by rw [ht]; exact hh.1, hh.2.1, hk⟩, hh.2.2.1.F ht⟩) hh.2.2.1.2.2 hd hlk
theorem z_lreturn (hd : decode M.2.1 pc = .ok (.lreturn, 1)) (hr : M.2.2.2 = some .long) (hw : w.1 = w.2.1) (h : Q (some (1, x)) μ) : z_R M pc lo [(1, x)] w μ d Q := by
  obtain ⟨w1, w2, w3⟩ := w
  simp only at hw
  subst hw
  intro p l e R s m args below meth c H locs cells slots D cy ad A ls hC hG hrm hh hl ha hb hk
  simp only [Nat.sub_self, Nat.add_zero, z_sl_nil]
  have hlk : meth.locks = false := hC.2.2.2.2.2.1
  exact W.lret (v := Int64.ofInt x) hC.1 hC.2.1 (hC.2.2.1.trans hr) (fun t ht _ => ⟨⟨some (1, x), μ, ad, rfl, fun v hv => by cases hv; exact ha.1, h, fun _ _ => rfl, by rw [ht]; exact hh.1, hh.2.1, hk⟩, hh.2.2.1.F ht⟩) hh.2.2.1.2.2 hd hlk
theorem z_return (hd : decode M.2.1 pc = .ok (.return_, 1)) (hr : M.2.2.2 = none) (hw : w.1 = w.2.1) (h : Q none μ) : z_R M pc lo [] w μ d Q := by
  obtain ⟨w1, w2, w3⟩ := w
  simp only at hw
  subst hw
  intro p l e R s m args below meth c H locs cells slots D cy ad A ls hC hG hrm hh hl ha hb hk
  simp only [Nat.sub_self, Nat.add_zero, z_sl_nil]
  have hlk : meth.locks = false := hC.2.2.2.2.2.1
  exact W.vret hC.1 hC.2.1 (hC.2.2.1.trans hr) (fun t ht _ => ⟨⟨none, μ, ad, rfl, (fun v hv => by cases hv), h, fun _ _ => rfl, by rw [ht]; exact hh.1, hh.2.1, hk⟩, hh.2.2.1.F ht⟩) hh.2.2.1.2.2 hd hlk
end ZL

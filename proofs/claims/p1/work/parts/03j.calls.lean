/-- the arguments as a method's first locals -/
def z_en : List z_V → List (Option z_V)
  | [] => []
  | v :: t => if v.1 = 1 then some v :: none :: z_en t else some v :: z_en t
def z_pad (n : Nat) (l : List (Option z_V)) : List (Option z_V) := l ++ List.replicate (n - l.length) none
/-- a call: from the method's entry on -/
def z_call (M : z_M) (as : List z_V) (w : z_W) (μ : z_Mem) (d : Nat) (Q : Option z_V → z_Mem → Prop) : Prop := z_R M 0 (z_pad M.2.2.1 (z_en as)) [] w μ d Q
theorem z_en_get {ad : Nat → Nat} : ∀ (as : List z_V) (i : Nat) (v : z_V), (z_en as)[i]? = some (some v) → (i, z_val ad v) ∈ lv_args 0 (as.map (z_val ad)) := by
  have key : ∀ (as : List z_V) (k i : Nat) (v : z_V), (z_en as)[i]? = some (some v) → (k + i, z_val ad v) ∈ lv_args k (as.map (z_val ad)) := by
    intro as
    induction as with
    | nil => intro k i v h; simp [z_en] at h
    | cons u t ih =>
      intro k i v h
      unfold z_en at h
      rw [List.map_cons]
      unfold lv_args
      by_cases hu : u.1 = 1
      · rw [if_pos hu] at h
        rw [if_pos (z_catv2 hu)]
        match i, h with
        | 0, h =>
          simp only [List.getElem?_cons_zero, Option.some.injEq] at h
          subst h
          exact List.mem_cons_self
        | 1, h => simp at h
        | i + 2, h =>
          simp only [List.getElem?_cons_succ] at h
          have := ih (k + 2) i v h
          rw [show k + (i + 2) = k + 2 + i by omega]
          exact List.mem_cons_of_mem _ this
      · rw [if_neg hu] at h
        rw [if_neg (fun q => hu (z_cat_one.mp q))]
        match i, h with
        | 0, h =>
          simp only [List.getElem?_cons_zero, Option.some.injEq] at h
          subst h
          exact List.mem_cons_self
        | i + 1, h =>
          simp only [List.getElem?_cons_succ] at h
          have := ih (k + 1) i v h
          rw [show k + (i + 1) = k + 1 + i by omega]
          exact List.mem_cons_of_mem _ this
  intro as i v h
  have := key as 0 i v h
  rwa [Nat.zero_add] at this
theorem z_pad_get {n i : Nat} {l : List (Option z_V)} {v : z_V} (h : (z_pad n l)[i]? = some (some v)) : l[i]? = some (some v) := by
  unfold z_pad at h
  by_cases hi : i < l.length
  · rw [List.getElem?_append_left hi] at h
    exact h
  · rw [List.getElem?_append_right (by omega), List.getElem?_replicate] at h
    split at h <;> cases h
theorem z_en_len {ad : Nat → Nat} : ∀ as : List z_V, (lg_sl (as.map (z_val ad))).length = (z_en as).length
  | [] => rfl
  | v :: t => by
    have ih := z_en_len (ad := ad) t
    unfold lg_sl at ih ⊢
    rw [List.map_cons, List.flatMap_cons, List.length_append, ih]
    have e : z_en (v :: t) = if v.1 = 1 then some v :: none :: z_en t else some v :: z_en t := rfl
    rw [e]
    by_cases h : v.1 = 1
    · rw [if_pos (z_catv2 h), if_pos h]
      simp only [List.length_cons, List.length_nil]
      omega
    · rw [if_neg (fun q => h (z_cat_one.mp q)), if_neg h]
      simp only [List.length_cons, List.length_nil]
      omega
theorem z_en_rv : ∀ as : List z_V, z_all as → z_allo (z_en as)
  | [], _ => fun i v h => by simp [z_en] at h
  | u :: t, h => fun i v hv => by
    have ih := z_en_rv t h.2
    unfold z_en at hv
    by_cases hu : u.1 = 1
    · rw [if_pos hu] at hv
      match i, hv with
      | 0, hv => cases hv; exact h.1
      | 1, hv => cases hv
      | i + 2, hv => exact ih i v (by simpa using hv)
    · rw [if_neg hu] at hv
      match i, hv with
      | 0, hv => cases hv; exact h.1
      | i + 1, hv => exact ih i v (by simpa using hv)
/-- the words of a method: its code, and all words that stay -/
def z_wd (M : z_M) : List Cond := Cond.code M.1 M.2.1 M.2.2.1 M.2.2.2 :: z_gw
def z_room (d mc ms : Nat) : Room := { frames := d, cells := mc, slots := ms, locals := 64 * d }
/-- what a method finds at its start -/
def z_Pc (D : va_G) (cy : Nat → ClassId) (ad : Nat → Nat) (A0 : Nat → Prop) (w : z_W) (μ : z_Mem) (sz : Nat) (as : List z_V) : Array Value → State → Prop := va_Pc (as.map (z_val ad)) (fun U => U.heap.size = sz ∧ va_P D vwCl (z_ws cy ad μ w.1) U.heap ∧ va_D (fun _ => True) (z_ws cy ad μ w.1) ∧ va_K D vwCl (z_tys cy) U ∧ (∀ v ∈ z_nw, va_Nw v U) ∧
  ∀ (j : Nat) (q : String × String × List Int), z_stat[j]? = some q → va_Z q.1 q.2.1 "[I" (.ref (ad (1001 + j))) A0 U U.heap ∧ va_T .int (ad (1001 + j)) q.2.2.length (fun i => .int (Int32.ofInt (q.2.2.getD i 0))) A0 U U.heap)
theorem z_find_moved {u U : State} (hvm : u.vm.Alike U.vm) (f : Class → Bool) (hf : ∀ x y : Class, x.kind = y.kind → f x = f y) {c : Nat} (h : u.vm.classes.findIdx? f = some c) : U.vm.classes.findIdx? f = some c := by
  have e : ∀ vm : Vm, vm.bare.classes.findIdx? f = vm.classes.findIdx? f := by
    intro vm
    simp only [Vm.bare, Array.findIdx?_map]
    congr 1
    funext x
    exact hf _ _ rfl
  rw [← e]
  first | rw [hvm.bare_eq] | rw [← hvm.bare_eq]
  rw [e]
  exact h
theorem z_AOA_moved {t : FieldType} {u U : State} (hvm : u.vm.Alike U.vm) (h : (Cond.arrayOver (.array t)).before #[] u = true) : (Cond.arrayOver (.array t)).before #[] U = true := by
  simp only [Cond.before, Cond.holds, Cond.value, beq_iff_eq, Option.bind_eq_some_iff, Option.map_eq_some_iff] at h ⊢
  obtain ⟨comp, h1, c, h2, k, h3, h4⟩ := h
  obtain ⟨k', hk', he⟩ := hvm.2.2 _ _ h3
  refine ⟨comp, by rw [hvm.findClass]; exact h1, c, ?_, k', hk', ?_⟩
  · exact z_find_moved hvm _ (fun x y hxy => by simp only [hxy]) h2
  · rw [he, hvm.findClass]
    exact h4
theorem z_nw_warm {s U : State} (hW : s.WarmedH U.vm) {v : Cond} (hv : z_isnest v = true) (h : va_Nw v s) : va_Nw v U := by
  unfold z_isnest at hv
  split at hv
  · exact va_Nw.warmM hW h
  · exact va_Nw.warmF hW h
  · rename_i ty
    cases ty with
    | object C => exact va_AO.moved hW.alike h
    | array t => exact z_AOA_moved hW.alike h
    | _ => cases hv
  · cases hv

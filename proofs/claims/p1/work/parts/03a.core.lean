/-- kinds of the fields of the classes: 0 int, 1 long, 2 reference, 3 boolean -/
def z_ft : Nat → List Nat := fun k => match k with
  | 0 => [3, 0, 2, 2, 2, 2]
  | 1 => [3, 0, 2, 0, 2, 2, 2, 2, 2]
  | 2 => [0, 0, 2]
  | 3 => [1, 0, 2]
  | 4 => [2, 0, 2, 0, 0]
  | 5 => [1, 2, 2, 0, 1]
  | 6 => [2, 2, 2, 2, 2, 0, 0]
  | 7 => [3, 0, 2, 2, 0, 2]
  | 8 => [0, 2, 2, 2, 2]
  | 9 => [0, 2, 0, 2, 2, 2, 2, 2, 0, 2, 2, 0, 2, 2, 2, 2, 2, 2]
  | 10 => [3, 0, 0, 0, 2, 2, 2]
  | 11 => [2, 0, 2, 2, 2, 2, 2, 2, 2, 2, 2, 2, 2]
  | 12 => [2, 2, 2, 2, 2, 2, 0, 2, 0, 0, 0, 0, 2, 2, 2, 2, 2, 2, 2, 2, 2, 0, 0, 0, 2, 2, 2, 2, 2, 2, 2, 2, 0, 0, 0, 2, 2, 0, 0, 2, 2, 0, 2, 2, 2, 0, 0, 2, 2, 2]
  | _ => []
/-- the objects in the order of their making: kind (13.. arrays of byte, int, long, boolean, Joints, Shelf, int[]), places -/
def z_sh : List (Nat × Nat) := [(11, 13), (14, 200), (4, 5), (14, 21), (14, 0), (9, 18), (14, 21), (14, 42), (14, 30), (14, 30), (14, 120), (14, 120), (14, 120), (14, 60), (14, 120), (14, 120), (14, 30), (14, 30), (14, 30), (14, 30), (3, 3), (14, 60), (6, 7), (14, 30), (14, 30), (14, 30), (14, 30), (14, 30), (10, 7), (15, 64), (5, 5), (6, 7), (14, 30), (14, 30), (14, 30), (14, 30), (14, 30), (14, 60), (0, 6), (14, 62), (14, 62), (14, 62), (14, 120), (1, 9), (14, 22), (14, 64), (14, 12), (14, 12), (19, 12), (14, 22), (14, 22), (14, 22), (14, 22), (14, 22), (14, 22), (14, 22), (14, 22), (14, 22), (14, 22), (14, 22), (14, 22), (19, 12), (14, 22), (14, 22), (14, 22), (14, 22), (14, 22), (14, 22), (14, 22), (14, 22), (14, 22), (14, 22), (14, 22), (14, 22), (8, 5), (14, 30), (14, 30), (14, 30), (14, 30), (2, 3), (17, 10), (3, 3), (14, 60), (3, 3), (14, 60), (3, 3), (14, 60), (3, 3), (14, 60), (3, 3), (14, 60), (3, 3), (14, 60), (3, 3), (14, 60), (3, 3), (14, 60), (3, 3), (14, 60), (3, 3), (14, 60), (18, 2), (7, 6), (14, 21), (3, 3), (14, 60), (14, 30), (7, 6), (14, 21), (3, 3), (14, 60), (14, 30), (12, 50), (14, 143), (14, 143), (14, 143), (14, 1430), (14, 286), (16, 2), (13, 200), (14, 30), (14, 30), (14, 120), (14, 120), (14, 120), (14, 120), (14, 60), (14, 120), (14, 120), (16, 30), (14, 30), (14, 30), (14, 30), (16, 30), (14, 30), (14, 30), (14, 30), (14, 60), (16, 30), (14, 120), (14, 120), (14, 22), (14, 22), (14, 22), (14, 30), (14, 30), (14, 30)]
/-- the references that stay: what they hold -/
def z_pt : List (List Int) := [[2, 0, 3, 6, 21, 23, 29, 31, 39, 44, 75, 80, 102], [], [4, 0, 0, 0, 0], [], [], [0, 7, 0, 8, 9, 10, 11, 12, 0, 13, 14, 0, 15, 16, 17, 18, 19, 20], [], [], [], [], [], [], [], [], [], [], [], [], [], [], [0, 0, 22], [], [24, 25, 26, 27, 28, 0, 0], [], [], [], [], [], [0, 0, 0, 0, 30, 6, 23], [], [0, 32, 38, 0, 0], [33, 34, 35, 36, 37, 0, 0], [], [], [], [], [], [], [0, 0, 40, 41, 42, 43], [], [], [], [], [0, 0, 45, 0, 46, 47, 48, 49, 62], [], [], [], [], [50, 51, 52, 53, 54, 55, 56, 57, 58, 59, 60, 61], [], [], [], [], [], [], [], [], [], [], [], [], [63, 64, 65, 66, 67, 68, 69, 70, 71, 72, 73, 74], [], [], [], [], [], [], [], [], [], [], [], [], [0, 76, 77, 78, 79], [], [], [], [], [0, 0, 81], [82, 84, 86, 88, 90, 92, 94, 96, 98, 100], [0, 0, 83], [], [0, 0, 85], [], [0, 0, 87], [], [0, 0, 89], [], [0, 0, 91], [], [0, 0, 93], [], [0, 0, 95], [], [0, 0, 97], [], [0, 0, 99], [], [0, 0, 101], [], [103, 108], [0, 0, 104, 105, 0, 107], [], [0, 0, 106], [], [], [0, 0, 109, 110, 0, 112], [], [0, 0, 111], [], [], [114, 115, 116, 117, 118, 119, 0, 120, 0, 0, 0, 0, 121, 122, 123, 124, 125, 126, 127, 128, 129, 0, 0, 0, 130, 131, 132, 133, 134, 135, 136, 137, 0, 0, 0, 138, 139, 0, 0, 140, 141, 0, 142, 143, 144, 0, 0, 145, 146, 147], [], [], [], [], [], [], [], [], [], [], [], [], [], [], [], [], [], [], [], [], [], [], [], [], [], [], [], [], [], [], [], [], [], []]
abbrev z_V : Type := Nat × Int
abbrev z_Mem : Type := Int → Int → Int
/-- how many cells are made, how many will be at the method's end, whether the references stay -/
abbrev z_W : Type := Nat × Nat × Bool
def z_st (μ : z_Mem) (o i v : Int) : z_Mem := fun p j => if p = o ∧ j = i then v else μ p j
def z_I (x : Int) : Prop := -2147483648 ≤ x ∧ x ≤ 2147483647
def z_J (x : Int) : Prop := -9223372036854775808 ≤ x ∧ x ≤ 9223372036854775807
def z_kd (o : Int) : Nat := if o ≤ 0 then 99 else (z_sh.getD (o.toNat - 1) (99, 0)).1
def z_ln (o : Int) : Int := if o ≤ 0 then 0 else ((z_sh.getD (o.toNat - 1) (99, 0)).2 : Int)
def z_ftag (k j : Nat) : Nat := (z_ft k).getD j 0
def z_nf (k : Nat) : Nat := (z_ft k).length
def z_tgk (k : Nat) (i : Int) : Nat := if k < 13 then (if i < 0 then 0 else z_ftag k i.toNat) else match k with
  | 13 => 4
  | 15 => 1
  | 16 => 3
  | 17 => 2
  | 18 => 2
  | 19 => 2
  | _ => 0
def z_tg (o i : Int) : Nat := z_tgk (z_kd o) i
/-- the tag of what lies on the stack -/
def z_sk (t : Nat) : Nat := match t with
  | 1 => 1
  | 2 => 2
  | _ => 0
def z_P (o i : Int) : Int := (z_pt.getD (o.toNat - 1) []).getD i.toNat 0
def z_isP (o i : Int) : Bool := decide (z_tg o i = 2) && decide (0 ≤ i) && decide (i < z_ln o) && !(decide (o = 3) && decide (i = 2))
def z_rng (t : Nat) (x : Int) (N : Nat) : Prop := match t with
  | 1 => z_J x
  | 2 => 0 ≤ x ∧ x ≤ N
  | 3 => 0 ≤ x ∧ x ≤ 1
  | 4 => -128 ≤ x ∧ x ≤ 127
  | _ => z_I x
def z_rv (v : z_V) : Prop := match v.1 with
  | 1 => z_J v.2
  | 2 => 0 ≤ v.2
  | _ => z_I v.2
def z_ok (μ : z_Mem) (w : z_W) : Prop := (∀ o i : Int, 1 ≤ o → o ≤ w.1 → z_rng (z_tg o i) (μ o i) w.1) ∧ (w.2.2 = true → ∀ o i : Int, z_isP o i = true → μ o i = z_P o i)
def z_rf (ad : Nat → Nat) (x : Int) : Option Nat := if x = 0 then none else some (ad x.toNat)
def z_val (ad : Nat → Nat) (v : z_V) : Value := match v.1 with
  | 1 => .long (Int64.ofInt v.2)
  | 2 => va_rf (z_rf ad v.2)
  | _ => .int (Int32.ofInt v.2)
def z_con (ad : Nat → Nat) (μ : z_Mem) (o : Int) (k : Nat) : (Nat → Int32) ⊕ (Nat → Int64) ⊕ (Nat → UInt32) ⊕ (Nat → UInt64) ⊕ (Nat → Option Nat) := match k with
  | 15 => .inr (.inl (fun j => Int64.ofInt (μ o j)))
  | 17 => .inr (.inr (.inr (.inr (fun j => z_rf ad (μ o j)))))
  | 18 => .inr (.inr (.inr (.inr (fun j => z_rf ad (μ o j)))))
  | 19 => .inr (.inr (.inr (.inr (fun j => z_rf ad (μ o j)))))
  | _ => .inl (fun j => Int32.ofInt (μ o j))
def z_fs (ad : Nat → Nat) (μ : z_Mem) (o : Int) (k : Nat) : List Value := (List.range (z_nf k)).map (fun j => z_val ad (z_ftag k j, μ o j))
def z_ent (cy : Nat → ClassId) (ad : Nat → Nat) (μ : z_Mem) (o : Int) (sh : Nat × Nat) : va_E :=
  if sh.1 < 13 then .inr (sh.1, z_fs ad μ o sh.1) else .inl (cy sh.1, sh.2, z_con ad μ o sh.1)
def z_cl (cy : Nat → ClassId) (ad : Nat → Nat) (μ : z_Mem) (j : Nat) : Nat × va_E := (ad (j + 1), z_ent cy ad μ ((j : Int) + 1) (z_sh.getD j (99, 0)))
def z_ws (cy : Nat → ClassId) (ad : Nat → Nat) (μ : z_Mem) (N : Nat) : va_W := (List.range N).map (z_cl cy ad μ)
theorem z_ws_get {cy : Nat → ClassId} {ad : Nat → Nat} {μ : z_Mem} {N j : Nat} (h : j < N) : (z_ws cy ad μ N)[j]? = some (z_cl cy ad μ j) := by
  unfold z_ws
  rw [List.getElem?_map, List.getElem?_range h]
  rfl
theorem z_ws_some {cy : Nat → ClassId} {ad : Nat → Nat} {μ : z_Mem} {N k : Nat} {q : Nat × va_E} (h : (z_ws cy ad μ N)[k]? = some q) : k < N ∧ q = z_cl cy ad μ k := by
  have hk : k < N := by
    have h1 := (List.getElem?_eq_some_iff.mp h).1
    simpa [z_ws] using h1
  rw [z_ws_get hk] at h
  exact ⟨hk, (Option.some.inj h).symm⟩
theorem z_st_ne {μ : z_Mem} {o i v p j : Int} (h : p ≠ o) : z_st μ o i v p j = μ p j := by
  unfold z_st
  rw [if_neg (fun q => h q.1)]
theorem z_st_ni {μ : z_Mem} {o i v p j : Int} (h : j ≠ i) : z_st μ o i v p j = μ p j := by
  unfold z_st
  rw [if_neg (fun q => h q.2)]
theorem z_st_eq {μ : z_Mem} {o i v : Int} : z_st μ o i v o i = v := by
  unfold z_st
  rw [if_pos ⟨rfl, rfl⟩]
theorem z_ent_ne {cy : Nat → ClassId} {ad : Nat → Nat} {μ : z_Mem} {o i v p : Int} {sh : Nat × Nat} (h : p ≠ o) : z_ent cy ad (z_st μ o i v) p sh = z_ent cy ad μ p sh := by
  have e : ∀ j : Int, z_st μ o i v p j = μ p j := fun j => z_st_ne h
  unfold z_ent z_fs z_con
  simp only [e]
theorem z_ws_set {cy : Nat → ClassId} {ad : Nat → Nat} {μ : z_Mem} {N j : Nat} {i v : Int} {e : va_E} (he : e = z_ent cy ad (z_st μ ((j : Int) + 1) i v) ((j : Int) + 1) (z_sh.getD j (99, 0))) :
    (z_ws cy ad μ N).set j (ad (j + 1), e) = z_ws cy ad (z_st μ ((j : Int) + 1) i v) N := by
  apply List.ext_getElem?
  intro k
  by_cases hk : k < N
  · rw [z_ws_get hk, List.getElem?_set]
    by_cases hj : j = k
    · subst hj
      rw [if_pos rfl, if_pos (by simpa [z_ws] using hk), he]
      rfl
    · rw [if_neg hj, z_ws_get hk]
      unfold z_cl
      rw [z_ent_ne (by omega)]
  · rw [List.getElem?_eq_none (by simp [z_ws]; omega), List.getElem?_eq_none (by simp [z_ws]; omega)]

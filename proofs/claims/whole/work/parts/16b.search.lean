/-! GLUINGS: all that are found behind some, in order -/
def zcdt (G : (Int → Int) → Int → List Int → List (Int → Int)) (w : Int → Int) (i : Int) (hs : List Int) : Nat → Int → List (Int → Int)
  | 0, _ => []
  | c + 1, j => G (zgp w i j) (i + 1) (j :: hs) ++ zcdt G w i hs c (j + 2)
noncomputable def zGl (N : Int) (A : Int → Int) : Nat → (Int → Int) → Int → List Int → List (Int → Int)
  | 0, _, _, _ => []
  | f + 1, w, i, [] => if i = N then (if zpd (zVa N A w) = true then [w] else []) else zcdt (zGl N A f) w i [] ((N - i) / 2).toNat (i + 1)
  | f + 1, w, i, h :: hs => if i = h then zGl N A f w (i + 1) hs else zcdt (zGl N A f) w i (h :: hs) ((h - i) / 2).toNat (i + 1)
/-- where what is open from i on ends -/
def zen (N : Int) : List Int → Int
  | [] => N
  | h :: _ => h
def zHg (N : Int) (w : Int → Int) : Int → List Int → Prop
  | i, [] => i ≤ N ∧ (N - i) % 2 = 0 ∧ ∀ t, i ≤ t → t < N → w t = -1
  | i, h :: hs => (i ≤ h ∧ h < N) ∧ (h - i) % 2 = 0 ∧ (∀ t, i ≤ t → t < h → w t = -1) ∧ 0 ≤ w h ∧ zHg N w (h + 1) hs
def zIv (N : Int) (w : Int → Int) (i : Int) (hs : List Int) : Prop := 0 ≤ i ∧ zHg N w i hs ∧ (∀ t, 0 ≤ t → t < i → 0 ≤ w t) ∧ (∀ t, 0 ≤ t → t < N → -1 ≤ w t ∧ w t < N) ∧ (∀ t, 0 ≤ t → t < N → 0 ≤ w t → w (w t) = t ∧ w t ≠ t) ∧ (∀ t, i ≤ t → t < N → w t < i) ∧ ∀ x y, 0 ≤ x → x < y → y < w x → x < N → 0 ≤ w y → x < w y ∧ w y < w x
section SE
variable {N i j h e : Int} {c f : Nat} {hs : List Int} {A w w' : Int → Int}
theorem zgp_1 : zgp w i j i = j := by unfold zgp; rw [if_pos rfl]
theorem zgp_2 (h : j ≠ i) : zgp w i j j = i := by unfold zgp; rw [if_neg h, if_pos rfl]
theorem zgp_3 {k : Int} (h1 : k ≠ i) (h2 : k ≠ j) : zgp w i j k = w k := by unfold zgp; rw [if_neg h1, if_neg h2]
theorem zHg_le : ∀ {hs : List Int} {i : Int}, zHg N w i hs → i ≤ N ∧ i ≤ zen N hs ∧ zen N hs ≤ N ∧ (zen N hs - i) % 2 = 0 ∧ ∀ t, i ≤ t → t < zen N hs → w t = -1
  | [], _, h => ⟨h.1, h.1, Int.le_refl _, h.2.1, h.2.2⟩
  | a :: _, i, h => ⟨by have := h.1; omega, h.1.1, by have := h.1.2; show a ≤ N; omega, h.2.1, h.2.2.1⟩
theorem zHg_fr : ∀ {hs : List Int} {i : Int}, zHg N w i hs → (∀ t, i ≤ t → t < N → w' t = w t) → zHg N w' i hs
  | [], _, h, e => ⟨h.1, h.2.1, fun t t0 t1 => by rw [e t t0 t1]; exact h.2.2 t t0 t1⟩
  | a :: _, i, h, e => by
    obtain ⟨h1, h2, h3, h4, h5⟩ := h
    exact ⟨h1, h2, fun t t0 t1 => by rw [e t t0 (by omega)]; exact h3 t t0 t1, by rw [e a h1.1 h1.2]; exact h4, zHg_fr h5 (fun t t0 t1 => e t (by omega) t1)⟩
theorem zIv_skip (v : zIv N w h (h :: hs)) : zIv N w (h + 1) hs := by
  obtain ⟨v1, ⟨v21, v22, v23, v24, v25⟩, v3, v4, v5, v6, v7⟩ := v
  refine ⟨by omega, v25, fun t t0 t1 => ?_, v4, v5, fun t t0 t1 => ?_, v7⟩
  · by_cases q : t = h
    · rw [q]
      exact v24
    · exact v3 t t0 (by omega)
  · have := v6 t (by omega) t1
    omega
theorem zIv_put (v : zIv N w i hs) (hj : i < j) (je : j < zen N hs) (jo : (j - i) % 2 = 1) : zIv N (zgp w i j) (i + 1) (j :: hs) ∧ w i = -1 ∧ w j = -1 ∧ 0 ≤ i ∧ j < N := by
  obtain ⟨v1, v2, v3, v4, v5, v6, v7⟩ := v
  obtain ⟨l1, l2, l3, l4, l5⟩ := zHg_le v2
  have oi := l5 i (by omega) (by omega)
  have oj := l5 j (by omega) je
  have g1 : zgp w i j i = j := zgp_1
  have g2 : zgp w i j j = i := zgp_2 (by omega)
  have g3 : ∀ k, k ≠ i → k ≠ j → zgp w i j k = w k := fun k a b => zgp_3 a b
  have nin : ∀ t, 0 ≤ t → t < N → 0 ≤ w t → w t ≠ i ∧ w t ≠ j := fun t t0 t1 tw => by
    obtain ⟨a, b⟩ := v5 t t0 t1 tw
    exact ⟨fun q => by rw [q, oi] at a; omega, fun q => by rw [q, oj] at a; omega⟩
  refine ⟨⟨by omega, ⟨⟨by omega, by omega⟩, by omega, fun t t0 t1 => ?_, by rw [g2]; exact v1, ?_⟩, fun t t0 t1 => ?_, fun t t0 t1 => ?_, fun t t0 t1 tw => ?_, fun t t0 t1 => ?_, fun x y x0 xy yw xN yo => ?_⟩, oi, oj, v1, by omega⟩
  · rw [g3 t (by omega) (by omega)]
    exact l5 t (by omega) (by omega)
  · cases hs with
    | nil => exact ⟨by have : j < N := je; omega, by have := v2.2.1; omega, fun t t0 t1 => by rw [g3 t (by omega) (by omega)]; exact v2.2.2 t (by omega) t1⟩
    | cons a hs =>
      obtain ⟨u1, u2, u3, u4, u5⟩ := v2
      have je : j < a := je
      exact ⟨⟨by omega, u1.2⟩, by omega, fun t t0 t1 => by rw [g3 t (by omega) (by omega)]; exact u3 t (by omega) t1, by rw [g3 a (by omega) (by omega)]; exact u4, zHg_fr u5 (fun t t0 t1 => g3 t (by omega) (by omega))⟩
  · by_cases q : t = i
    · rw [q, g1]
      omega
    · rw [g3 t q (by omega)]
      exact v3 t t0 (by omega)
  · by_cases q : t = i
    · rw [q, g1]
      omega
    · by_cases q2 : t = j
      · rw [q2, g2]
        omega
      · rw [g3 t q q2]
        exact v4 t t0 t1
  · by_cases q : t = i
    · rw [q, g1, g2]
      omega
    · by_cases q2 : t = j
      · rw [q2, g2, g1]
        omega
      · rw [g3 t q q2] at tw ⊢
        obtain ⟨n1, n2⟩ := nin t t0 t1 tw
        rw [g3 _ n1 n2]
        exact v5 t t0 t1 tw
  · by_cases q2 : t = j
    · rw [q2, g2]
      omega
    · rw [g3 t (by omega) q2]
      have := v6 t (by omega) t1
      omega
  · by_cases q : x = i
    · subst q
      rw [g1] at yw ⊢
      rw [g3 y (by omega) (by omega), l5 y (by omega) (by omega)] at yo
      omega
    · by_cases q2 : x = j
      · subst q2
        rw [g2] at yw
        omega
      · rw [g3 x q q2] at yw ⊢
        have xw : 0 ≤ w x := by omega
        obtain ⟨a1, a2⟩ := v5 x x0 xN xw
        have a3 := (v4 x x0 xN).2
        have xi : x < i := by
          refine Classical.byContradiction fun z => ?_
          have := v6 x (by omega) xN
          omega
        have we : i ≤ w x → zen N hs ≤ w x := fun z => Classical.byContradiction fun z2 => by
          have := l5 (w x) z (by omega)
          omega
        by_cases q3 : y = i
        · subst q3
          rw [g1]
          have := we (by omega)
          omega
        · by_cases q4 : y = j
          · subst q4
            rw [g2]
            omega
          · rw [g3 y q3 q4] at yo ⊢
            exact v7 x y x0 xy yw xN yo
/-- a GLUING in full -/
def zFu (N : Int) (A w : Int → Int) : Prop := zIv N w N [] ∧ zVa N A w
theorem zex_r : zex N w w := fun _ _ _ _ => rfl
theorem zex_t {v : Int → Int} (h1 : zex N w w') (h2 : zex N w' v) : zex N w v := fun t t0 t1 tw => by
  rw [h2 t t0 t1 (by rw [h1 t t0 t1 tw]; exact tw)]
  exact h1 t t0 t1 tw
theorem zex_pt (hi : w i = -1) (hj : w j = -1) : zex N w (zgp w i j) := fun t t0 t1 tw => zgp_3 (fun q => by rw [q, hi] at tw; omega) (fun q => by rw [q, hj] at tw; omega)
theorem zcdt_el {G : (Int → Int) → Int → List Int → List (Int → Int)} (hG : ∀ w i hs, zIv N w i hs → ∀ u, u ∈ G w i hs → zFu N A u ∧ zex N w u) (v : zIv N w i hs) : ∀ (c : Nat) (j : Int), i < j → (j - i) % 2 = 1 → (c : Int) * 2 + j ≤ zen N hs + 1 → ∀ u, u ∈ zcdt G w i hs c j → zFu N A u ∧ zex N w u
  | 0, j, _, _, _, u, hu => absurd hu (by intro q; exact absurd q (List.not_mem_nil))
  | c + 1, j, h1, h2, h3, u, hu => by
    have hu : u ∈ G (zgp w i j) (i + 1) (j :: hs) ++ zcdt G w i hs c (j + 2) := hu
    rcases List.mem_append.mp hu with hu | hu
    · obtain ⟨p1, p2, p3, p4, p5⟩ := zIv_put v h1 (by omega) h2
      obtain ⟨a, b⟩ := hG _ _ _ p1 u hu
      exact ⟨a, zex_t (zex_pt p2 p3) b⟩
    · exact zcdt_el hG v c (j + 2) (by omega) (by omega) (by omega) u hu
theorem zGl_el : ∀ (f : Nat) (w : Int → Int) (i : Int) (hs : List Int), zIv N w i hs → ∀ u, u ∈ zGl N A f w i hs → zFu N A u ∧ zex N w u
  | 0, _, _, _, _, u, hu => absurd hu (List.not_mem_nil)
  | f + 1, w, i, [], v, u, hu => by
    have hu : u ∈ (if i = N then (if zpd (zVa N A w) = true then [w] else []) else zcdt (zGl N A f) w i [] ((N - i) / 2).toNat (i + 1)) := hu
    by_cases q : i = N
    · rw [if_pos q] at hu
      by_cases q2 : zVa N A w
      · rw [if_pos (zpd_t q2)] at hu
        have : u = w := List.mem_singleton.mp hu
        subst this
        subst q
        exact ⟨⟨v, q2⟩, zex_r⟩
      · rw [if_neg (by rw [zpd_f q2]; decide)] at hu
        exact absurd hu (List.not_mem_nil)
    · rw [if_neg q] at hu
      have := zHg_le v.2.1
      exact zcdt_el (fun w i hs v u hu => zGl_el f w i hs v u hu) v _ _ (by omega) (by omega) (by show _ ≤ N + 1; omega) u hu
  | f + 1, w, i, h :: hs, v, u, hu => by
    have hu2 : u ∈ (if i = h then zGl N A f w (i + 1) hs else zcdt (zGl N A f) w i (h :: hs) ((h - i) / 2).toNat (i + 1)) := hu
    by_cases q : i = h
    · rw [if_pos q] at hu2
      have v2 : zIv N w (i + 1) hs := by
        subst q
        exact zIv_skip v
      exact zGl_el f w (i + 1) hs v2 u hu2
    · rw [if_neg q] at hu2
      have := v.2.1.1
      exact zcdt_el (fun w i hs v u hu => zGl_el f w i hs v u hu) v _ _ (by omega) (by omega) (by show _ ≤ h + 1; omega) u hu2
/-- a point with too much: nothing is found -/
theorem zGl_no (hA : ∀ j, 0 ≤ j → j < N → 0 ≤ A j) (v : zIv N w i hs) {k : Int} (hk : 0 ≤ k ∧ k < N) (h4 : 4 < zwt N A (zU N w) k) : zGl N A f w i hs = [] := by
  refine List.eq_nil_iff_forall_not_mem.mpr (fun u hu => ?_)
  obtain ⟨a, b⟩ := zGl_el f w i hs v u hu
  have := zex_V hA b a.2 k hk.1 hk.2
  omega
end SE

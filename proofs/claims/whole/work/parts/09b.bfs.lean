/-! BREADTH FIRST: the row of sides over which faces are come to, the last first -/
def zfj (ac : Int → Int) (r : Int) : List Int → Int → Int
  | [], _ => r
  | k :: L, j => if j = L.length + 1 then ac k / 4 else zfj ac r L j
def zin (ac : Int → Int) (r : Int) : List Int → Int → Bool
  | [], f => decide (f = r)
  | k :: L, f => decide (f = ac k / 4) || zin ac r L f
def zTr (F : Int) (ac ed : Int → Int) (H : Int → Bool) (r : Int) : List Int → Prop
  | [] => True
  | k :: L => ((0 ≤ k ∧ k < 4 * F) ∧ H (ed k) = true ∧ zin ac r L (k / 4) = true ∧ zin ac r L (ac k / 4) = false) ∧ zTr F ac ed H r L
def zBs (ac ed : Int → Int) (H : Int → Bool) (r : Int) (L : List Int) (k : Int) : List Int := if H (ed k) = true ∧ zin ac r L (ac k / 4) = false then k :: L else L
def zBt (ac ed : Int → Int) (H : Int → Bool) (r : Int) (L : List Int) (f : Int) : Nat → List Int
  | 0 => L
  | t + 1 => zBs ac ed H r (zBt ac ed H r L f t) (4 * f + t)
def zBq (ac ed : Int → Int) (H : Int → Bool) (r : Int) : Nat → Int → List Int → List Int
  | 0, _, L => L
  | n + 1, i, L => if i < L.length + 1 then zBq ac ed H r n (i + 1) (zBt ac ed H r L (zfj ac r L i) 4) else L
def zBF (ac ed : Int → Int) (H : Int → Bool) (r : Int) : List Int := zBq ac ed H r 31 0 []
section BF
variable {F r f k i : Int} {ac ed es : Int → Int} {H : Int → Bool} {L : List Int}
theorem zin_r : zin ac r L r = true := by
  induction L with
  | nil => exact decide_eq_true rfl
  | cons k L ih =>
    show (decide (r = ac k / 4) || zin ac r L r) = true
    rw [ih]
    simp
theorem zin_j : ∀ {L : List Int} {j : Int}, zin ac r L (zfj ac r L j) = true
  | [], j => decide_eq_true rfl
  | k :: L, j => by
    show (decide (zfj ac r (k :: L) j = ac k / 4) || zin ac r L (zfj ac r (k :: L) j)) = true
    by_cases q : j = L.length + 1
    · have : zfj ac r (k :: L) j = ac k / 4 := if_pos q
      rw [this, decide_eq_true rfl]
      rfl
    · have : zfj ac r (k :: L) j = zfj ac r L j := if_neg q
      rw [this, zin_j]
      simp
theorem zin_ex : ∀ {L : List Int} {f : Int}, zin ac r L f = true → ∃ j : Int, 0 ≤ j ∧ j < L.length + 1 ∧ zfj ac r L j = f
  | [], f, h => ⟨0, by decide, by decide, (of_decide_eq_true h).symm⟩
  | k :: L, f, h => by
    have h' : (decide (f = ac k / 4) || zin ac r L f) = true := h
    rw [Bool.or_eq_true] at h'
    rcases h' with q | q
    · refine ⟨L.length + 1, by omega, by rw [List.length_cons]; omega, ?_⟩
      have : zfj ac r (k :: L) (L.length + 1) = ac k / 4 := if_pos rfl
      rw [this]
      exact (of_decide_eq_true q).symm
    · obtain ⟨j, a, b, c⟩ := zin_ex q
      refine ⟨j, a, by rw [List.length_cons]; omega, ?_⟩
      have : zfj ac r (k :: L) j = zfj ac r L j := if_neg (by omega)
      rw [this]
      exact c
theorem zin_mem : ∀ {L : List Int} {k : Int}, k ∈ L → zin ac r L (ac k / 4) = true
  | k' :: L, k, h => by
    show (decide (ac k / 4 = ac k' / 4) || zin ac r L (ac k / 4)) = true
    rcases List.mem_cons.mp h with q | q
    · rw [q, decide_eq_true rfl]
      rfl
    · rw [zin_mem q]
      simp
theorem zTr_J : ∀ {L : List Int} {f : Int}, zTr F ac ed H r L → zin ac r L f = true → zJ F ac ed H r f
  | [], f, _, h => by
    rw [of_decide_eq_true h]
    exact zJ_r
  | k :: L, f, ht, h => by
    have h' : (decide (f = ac k / 4) || zin ac r L f) = true := h
    rw [Bool.or_eq_true] at h'
    obtain ⟨⟨h1, h2, h3, h4⟩, h5⟩ := ht
    rcases h' with q | q
    · rw [of_decide_eq_true q]
      exact zJ_st h1 h2 (zTr_J h5 h3)
    · exact zTr_J h5 q
theorem zTr_n (sk : zSK F ac ed es) (hr : 0 ≤ r ∧ r < F) : ∀ {L : List Int}, zTr F ac ed H r L → zN F.toNat (zin ac r L) = L.length + 1 := by
  intro L
  induction L with
  | nil =>
    intro _
    have e : zin ac r [] = fun x => decide (x = r) || (fun _ => false) x := by
      funext x
      show decide (x = r) = _
      simp
    have z : ∀ n : Nat, zN n (fun _ => false) = 0 := fun n => by
      induction n with
      | zero => rfl
      | succ n ih => rw [zN_s, ih]; rfl
    rw [e, zN_on F.toNat hr.1 rfl, z, if_pos (by omega)]
    rfl
  | cons k L ih =>
    rintro ⟨⟨h1, h2, h3, h4⟩, h5⟩
    have e : zin ac r (k :: L) = fun x => decide (x = ac k / 4) || zin ac r L x := rfl
    have s1 := (sk.2.1 k h1.1 h1.2).1
    rw [e, zN_on F.toNat (by omega) h4, ih h5, if_pos (by omega), List.length_cons]
    omega
theorem zTr_le (sk : zSK F ac ed es) (hr : 0 ≤ r ∧ r < F) (h : zTr F ac ed H r L) : (L.length : Int) + 1 ≤ F := by
  have := zTr_n sk hr h
  have := (zN_r (P := zin ac r L) F.toNat).2
  omega
theorem zTr_lt (sk : zSK F ac ed es) (hr : 0 ≤ r ∧ r < F) (h : zTr F ac ed H r L) (hf : 0 ≤ f ∧ f < F) (hn : zin ac r L f = false) : (L.length : Int) + 1 < F := by
  have a := zTr_n sk hr h
  have b := zN_lt (P := zin ac r L) (Q := fun _ => true) F.toNat (fun _ _ _ _ => rfl) (j := f) (by omega) hn rfl
  have := (zN_r (P := fun _ => true) F.toNat).2
  omega
theorem zTr_in (sk : zSK F ac ed es) (hr : 0 ≤ r ∧ r < F) : ∀ {L : List Int} {f : Int}, zTr F ac ed H r L → zin ac r L f = true → 0 ≤ f ∧ f < F := fun ht h => zJ_in sk hr (zTr_J ht h)
theorem zTr_s (hk : 0 ≤ k ∧ k < 4 * F) (hi : zin ac r L (k / 4) = true) (h : zTr F ac ed H r L) : zTr F ac ed H r (zBs ac ed H r L k) := by
  unfold zBs
  split
  · rename_i q
    exact ⟨⟨hk, q.1, hi, q.2⟩, h⟩
  · exact h
theorem zin_s (h : zin ac r L f = true) : zin ac r (zBs ac ed H r L k) f = true := by
  unfold zBs
  split
  · show (decide (f = ac k / 4) || zin ac r L f) = true
    rw [h]
    simp
  · exact h
theorem zfj_s {j : Int} (hj : j < L.length + 1) : zfj ac r (zBs ac ed H r L k) j = zfj ac r L j := by
  unfold zBs
  split
  · exact if_neg (by omega)
  · rfl
theorem zlen_s : (L.length : Int) ≤ (zBs ac ed H r L k).length := by
  unfold zBs
  split
  · rw [List.length_cons]
    omega
  · omega
theorem zdo_s (h : H (ed k) = true) : zin ac r (zBs ac ed H r L k) (ac k / 4) = true := by
  unfold zBs
  split
  · show (decide (ac k / 4 = ac k / 4) || zin ac r L (ac k / 4)) = true
    rw [decide_eq_true rfl]
    rfl
  · rename_i q
    cases hz : zin ac r L (ac k / 4) with
    | true => rfl
    | false => exact absurd ⟨h, hz⟩ q
theorem zBt_ok (hf : 0 ≤ f ∧ f < F) (hi : zin ac r L f = true) (h : zTr F ac ed H r L) : ∀ t : Nat, t ≤ 4 → zTr F ac ed H r (zBt ac ed H r L f t) ∧ (∀ x, zin ac r L x = true → zin ac r (zBt ac ed H r L f t) x = true) ∧ (∀ j : Int, j < L.length + 1 → zfj ac r (zBt ac ed H r L f t) j = zfj ac r L j) ∧ (L.length : Int) ≤ (zBt ac ed H r L f t).length ∧ (∀ t' : Nat, t' < t → H (ed (4 * f + t')) = true → zin ac r (zBt ac ed H r L f t) (ac (4 * f + t') / 4) = true) := by
  intro t
  induction t with
  | zero => exact fun _ => ⟨h, fun _ w => w, fun _ _ => rfl, Int.le_refl _, fun t' w => by omega⟩
  | succ t ih =>
    intro ht
    obtain ⟨i1, i2, i3, i4, i5⟩ := ih (by omega)
    have e : zBt ac ed H r L f (t + 1) = zBs ac ed H r (zBt ac ed H r L f t) (4 * f + t) := rfl
    rw [e]
    refine ⟨zTr_s (by omega) (by rw [show (4 * f + (t : Int)) / 4 = f by omega]; exact i2 f hi) i1, fun x hx => zin_s (i2 x hx), fun j hj => ?_, ?_, fun t' ht' hh => ?_⟩
    · rw [zfj_s (by omega)]
      exact i3 j hj
    · have := zlen_s (ac := ac) (ed := ed) (H := H) (r := r) (L := zBt ac ed H r L f t) (k := 4 * f + t)
      omega
    · by_cases q : t' = t
      · subst q
        exact zdo_s hh
      · exact zin_s (i5 t' (by omega) hh)
/-- all sides of the first i faces are gone over -/
def zCl (ac ed : Int → Int) (H : Int → Bool) (r : Int) (L : List Int) (i : Int) : Prop := ∀ j, 0 ≤ j → j < i → j < L.length + 1 → ∀ k, k / 4 = zfj ac r L j → H (ed k) = true → zin ac r L (ac k / 4) = true
theorem zBq_ok (sk : zSK F ac ed es) (hr : 0 ≤ r ∧ r < F) : ∀ (n : Nat) (i : Int) (L : List Int), 0 ≤ i → 31 - i ≤ n → zTr F ac ed H r L → zCl ac ed H r L i → zTr F ac ed H r (zBq ac ed H r n i L) ∧ zCl ac ed H r (zBq ac ed H r n i L) 31 := by
  intro n
  induction n with
  | zero =>
    intro i L i0 i1 h hc
    refine ⟨h, fun j j0 j1 j2 => hc j j0 (by omega) j2⟩
  | succ n ih =>
    intro i L i0 i1 h hc
    show zTr F ac ed H r (if i < L.length + 1 then _ else L) ∧ zCl ac ed H r (if i < L.length + 1 then _ else L) 31
    by_cases q : i < L.length + 1
    · rw [if_pos q]
      have fi := zTr_in sk hr h (zin_j (j := i))
      obtain ⟨b1, b2, b3, b4, b5⟩ := zBt_ok fi zin_j h 4 (Nat.le_refl _)
      refine ih (i + 1) _ (by omega) (by omega) b1 (fun j j0 j1 j2 k hk hh => ?_)
      rcases (by omega : j < i ∨ j = i) with w | w
      · rw [b3 j (by omega)] at hk
        exact b2 _ (hc j j0 w (by omega) k hk hh)
      · subst w
        rw [b3 j q] at hk
        have e : k = 4 * zfj ac r L j + ((k % 4).toNat : Nat) := by omega
        rw [e] at hh ⊢
        exact b5 _ (by omega) hh
    · rw [if_neg q]
      exact ⟨h, fun j j0 j1 j2 => hc j j0 (by omega) j2⟩
theorem zBF_tr (sk : zSK F ac ed es) (hr : 0 ≤ r ∧ r < F) : zTr F ac ed H r (zBF ac ed H r) := (zBq_ok sk hr 31 0 [] (by omega) (by omega) trivial (fun j j0 j1 => by omega)).1
theorem zBF_J (sk : zSK F ac ed es) (hr : 0 ≤ r ∧ r < F) : zin ac r (zBF ac ed H r) f = true ↔ zJ F ac ed H r f := by
  obtain ⟨h1, h2⟩ := zBq_ok (H := H) sk hr 31 0 [] (by omega) (by omega) trivial (fun j j0 j1 => by omega)
  refine ⟨zTr_J h1, fun h => h (fun x => zin ac r (zBF ac ed H r) x = true) zin_r (fun k k0 k1 hh hx => ?_)⟩
  obtain ⟨j, j0, j1, j2⟩ := zin_ex hx
  have := zTr_le sk hr h1
  have := sk.1.2
  exact h2 j j0 (by have : (zBF ac ed H r).length = (zBq ac ed H r 31 0 []).length := rfl; omega) j1 k j2.symm hh
/-- the row of faces alone, in a memory -/
def zRow (ac : Int → Int) (r : Int) (L : List Int) (q : Int → Int) : Prop := ∀ j : Int, 0 ≤ j → j < (L.length : Int) + 1 → q j = zfj ac r L j
theorem zRow_s {q : Int → Int} (h : zRow ac r L q) {v : Int} (hv : v = ac k / 4) {n : Int} (hn : n = L.length + 1) : zRow ac r (k :: L) (zs_up q n v) := by
  intro j j0 j1
  rw [List.length_cons] at j1
  unfold zs_up
  by_cases w : j = n
  · rw [if_pos w, hv]
    exact (if_pos (by omega)).symm
  · rw [if_neg w, h j j0 (by omega)]
    exact (if_neg (by omega)).symm
theorem zs_up_st {m : z_Mem} {o i v : Int} : z_st m o i v o = zs_up (m o) i v := by
  funext j
  unfold zs_up
  by_cases r : j = i
  · rw [if_pos r, r, z_st_eq]
  · rw [if_neg r, z_st_ni r]
theorem zs_up_so {m : z_Mem} {o i v p : Int} (h : p ≠ o) : z_st m o i v p = m p := by
  funext j
  exact z_st_ne h
/-- from where each was come to: u of the side -/
def zWh (ac : Int → Int) (r : Int) (u : Int → Int) (L : List Int) (q : Int → Int) : Prop := q r = -1 ∧ ∀ k ∈ L, q (ac k / 4) = u k
theorem zWh_s {u q : Int → Int} (h : zWh ac r u L q) (hn : zin ac r L (ac k / 4) = false) {v f : Int} (hf : f = ac k / 4) (hv : v = u k) : zWh ac r u (k :: L) (zs_up q f v) := by
  subst hf hv
  refine ⟨?_, fun k' hk => ?_⟩
  · unfold zs_up
    rw [if_neg (fun w => by rw [← w, zin_r] at hn; cases hn)]
    exact h.1
  · unfold zs_up
    rcases List.mem_cons.mp hk with w | w
    · rw [w, if_pos rfl]
    · rw [if_neg (fun x => by rw [← x, zin_mem w] at hn; cases hn)]
      exact h.2 k' w
/-- reached or not, as bits -/
def zBi (ac : Int → Int) (r : Int) (L : List Int) (v : Int) : Prop := (0 ≤ v ∧ v < ((2 ^ 30 : Nat) : Int)) ∧ ∀ f, 0 ≤ f → zbt v f = zin ac r L f
theorem zBi_s {v : Int} (h : zBi ac r L v) (hf : 0 ≤ ac k / 4 ∧ ac k / 4 < 30) : zBi ac r (k :: L) (zor v (ac k / 4)) := by
  refine ⟨⟨zor_n, zor_lt h.1.2 (by omega)⟩, fun f f0 => ?_⟩
  rw [zbt_or hf.1 f0, h.2 f f0, Bool.or_comm]
  rfl
theorem zBi_0 (hr : 0 ≤ r ∧ r < 30) : zBi ac r [] ((2 : Int) ^ r.toNat) := by
  refine ⟨⟨?_, ?_⟩, fun f f0 => zbt_pow hr.1 f0⟩
  · rw [zpw']
    exact Int.natCast_nonneg _
  · rw [zpw']
    have := zpw_lt (a := r.toNat) (n := 30) (by omega)
    omega
end BF

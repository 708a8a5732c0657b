/-! THE READER: pure pictures of runs, numbers, cubes; then the class's reader -/
theorem z_st_self {μ : z_Mem} {o i v : Int} (h : μ o i = v) : z_st μ o i v = μ := by
  funext p j
  by_cases q : p = o
  · subst q
    by_cases r : j = i
    · subst r
      rw [z_st_eq, h]
    · exact z_st_ni r
  · exact z_st_ne q
theorem z_st_st {μ : z_Mem} {o i v w : Int} : z_st (z_st μ o i v) o i w = z_st μ o i w := by
  funext p j
  by_cases q : p = o
  · subst q
    by_cases r : j = i
    · subst r
      rw [z_st_eq, z_st_eq]
    · rw [z_st_ni r, z_st_ni r, z_st_ni r]
  · rw [z_st_ne q, z_st_ne q, z_st_ne q]
def zr_n (P : Int → Bool) (L : Int) : Nat → Int → Int
  | 0, p => p
  | n + 1, p => if p < L ∧ P p = true then zr_n P L n (p + 1) else p
/-- the end of the run of P from p on -/
def zr (P : Int → Bool) (L p : Int) : Int := zr_n P L (L - p).toNat p
theorem zr_y {P : Int → Bool} {L p : Int} (h : p < L) (hp : P p = true) : zr P L p = zr P L (p + 1) := by
  unfold zr
  rw [show (L - p).toNat = (L - (p + 1)).toNat + 1 by omega]
  show (if p < L ∧ P p = true then _ else p) = _
  rw [if_pos ⟨h, hp⟩]
theorem zr_no {P : Int → Bool} {L p : Int} (h : ¬ (p < L ∧ P p = true)) : zr P L p = p := by
  unfold zr
  cases (L - p).toNat with
  | zero => rfl
  | succ n =>
    show (if p < L ∧ P p = true then _ else p) = _
    rw [if_neg h]
theorem zr_le {P : Int → Bool} {L p : Int} (h : p ≤ L) : p ≤ zr P L p ∧ zr P L p ≤ L := by
  refine z_up (P := fun k => k ≤ zr P L k ∧ zr P L k ≤ L) (lo := p) (N := L) (fun k h1 h2 ih => ?_) p (Int.le_refl p) h
  by_cases q : k < L ∧ P k = true
  · rw [zr_y q.1 q.2]
    have := ih q.1
    omega
  · rw [zr_no q]
    omega
def zb_sp (T : Int → Int) (i : Int) : Bool := decide (T i = 32)
def zb_le (T : Int → Int) (i : Int) : Bool := decide (97 ≤ T i ∧ T i ≤ 122)
def zb_di (T : Int → Int) (i : Int) : Bool := decide (48 ≤ T i ∧ T i ≤ 57)
/-- the number told by the digits from p to e, behind v -/
def zv_n (T : Int → Int) : Nat → Int → Int → Int
  | 0, _, v => v
  | n + 1, p, v => zv_n T n (p + 1) (10 * v + T p - 48)
def zv (T : Int → Int) (e p v : Int) : Int := zv_n T (e - p).toNat p v
theorem zv_y {T : Int → Int} {e p v : Int} (h : p < e) : zv T e p v = zv T e (p + 1) (10 * v + T p - 48) := by
  unfold zv
  rw [show (e - p).toNat = (e - (p + 1)).toNat + 1 by omega]
  rfl
theorem zv_no {T : Int → Int} {e p v : Int} (h : e ≤ p) : zv T e p v = v := by
  unfold zv
  rw [show (e - p).toNat = 0 by omega]
  rfl
/-- the word 'cube' from b to e -/
def zp_w (T : Int → Int) (b e : Int) : Prop := e - b = 4 ∧ T b = 99 ∧ T (b + 1) = 117 ∧ T (b + 2) = 98 ∧ T (b + 3) = 101
section PA
variable {a b c : Int} {μ : z_Mem} {d : Nat} {K : Int → z_Mem → Prop} {Kn : z_Mem → Prop}
theorem e_toNext (hL : μ 3 3 ≤ 200) (h0 : 0 ≤ μ 3 4 ∧ μ 3 4 ≤ μ 3 3) (hT : μ 3 2 = 2) (h : K (zr (zb_sp (μ 2)) (μ 3 3) (μ 3 4)) (z_st μ 3 4 (zr (zb_sp (μ 2)) (μ 3 3) (μ 3 4)))) : z_ci m_X4_toNext [(2, 3)] μ d K := by
  have fin : ∀ k, zr (zb_sp (μ 2)) (μ 3 3) k = zr (zb_sp (μ 2)) (μ 3 3) (μ 3 4) → ¬ (k < μ 3 3 ∧ μ 2 k = 32) → K k (z_st μ 3 4 k) := fun k h1 h2 => by
    rw [← h1, zr_no (by unfold zb_sp; rw [decide_eq_true_eq]; exact h2)] at h
    exact h
  have key : ∀ k, μ 3 4 ≤ k → k ≤ μ 3 3 → zr (zb_sp (μ 2)) (μ 3 3) k = zr (zb_sp (μ 2)) (μ 3 3) (μ 3 4) → z_ri m_X4_toNext 0 [some (2, 3)] (z_st μ 3 4 k) d K := by
    refine z_up (fun k h1 h2 ih he => ?_)
    have e34 : z_st μ 3 4 k 3 4 = k := z_st_eq
    have e33 : z_st μ 3 4 k 3 3 = μ 3 3 := z_st_ni (by decide)
    have e32 : z_st μ 3 4 k 3 2 = 2 := by rw [z_st_ni (by decide)]; exact hT
    have eT : z_st μ 3 4 k 2 k = μ 2 k := z_st_ne (by decide)
    refine V_X4_toNext_0 ?_
    rw [e34, e33, e32, eT]
    refine ⟨fun q1 => fin k he (by omega), fun q2 => ⟨rfl, ⟨by omega, by omega⟩, fun q3 => fin k he (by omega), fun q4 => ⟨⟨by omega, by omega⟩, ?_⟩⟩⟩
    rw [z_st_st]
    exact ih q2 (by rw [← he]; exact (zr_y q2 (by unfold zb_sp; rw [decide_eq_true_eq]; exact q4)).symm)
  refine V_X4_toNext ⟨fun q1 => ?_, fun q2 => ⟨hT, ⟨by omega, by omega⟩, fun q3 => ?_, fun q4 => ⟨⟨by omega, by omega⟩, ?_⟩⟩⟩
  · have := fin _ rfl (by omega)
    rw [z_st_self rfl] at this
    exact this
  · have := fin _ rfl (by omega)
    rw [z_st_self rfl] at this
    exact this
  · exact key _ (by omega) (by omega) (zr_y q2 (by unfold zb_sp; rw [decide_eq_true_eq]; exact q4)).symm
theorem e_passWord (hL : μ 3 3 ≤ 200) (h0 : 0 ≤ μ 3 4 ∧ μ 3 4 ≤ μ 3 3) (hT : μ 3 2 = 2) (hy : zp_w (μ 2) (μ 3 4) (zr (zb_le (μ 2)) (μ 3 3) (μ 3 4)) → K 1 (z_st μ 3 4 (zr (zb_le (μ 2)) (μ 3 3) (μ 3 4)))) (hn : ¬ zp_w (μ 2) (μ 3 4) (zr (zb_le (μ 2)) (μ 3 3) (μ 3 4)) → K 0 (z_st μ 3 4 (zr (zb_le (μ 2)) (μ 3 3) (μ 3 4)))) : z_ci m_X4_passWord [(2, 3)] μ d K := by
  have key : ∀ k, μ 3 4 ≤ k → k ≤ μ 3 3 → zr (zb_le (μ 2)) (μ 3 3) k = zr (zb_le (μ 2)) (μ 3 3) (μ 3 4) → z_ri m_X4_passWord 5 [some (2, 3), some (0, μ 3 4)] (z_st μ 3 4 k) d K := by
    refine z_up (fun k h1 h2 ih he => ?_)
    have e34 : z_st μ 3 4 k 3 4 = k := z_st_eq
    have e33 : z_st μ 3 4 k 3 3 = μ 3 3 := z_st_ni (by decide)
    have e32 : z_st μ 3 4 k 3 2 = 2 := by rw [z_st_ni (by decide)]; exact hT
    have eT : ∀ i, z_st μ 3 4 k 2 i = μ 2 i := fun i => z_st_ne (by decide)
    have g : ¬ (k < μ 3 3 ∧ 97 ≤ μ 2 k ∧ μ 2 k ≤ 122) → zr (zb_le (μ 2)) (μ 3 3) (μ 3 4) = k := fun h => by
      rw [← he]
      exact zr_no (by unfold zb_le; rw [decide_eq_true_eq]; exact h)
    have g1 : ¬ (k < μ 3 3 ∧ 97 ≤ μ 2 k ∧ μ 2 k ≤ 122) → zp_w (μ 2) (μ 3 4) k → K 1 (z_st μ 3 4 k) := fun h h' => by
      have e := g h
      rw [e] at hy
      exact hy h'
    have g0 : ¬ (k < μ 3 3 ∧ 97 ≤ μ 2 k ∧ μ 2 k ≤ 122) → ¬ zp_w (μ 2) (μ 3 4) k → K 0 (z_st μ 3 4 k) := fun h h' => by
      have e := g h
      rw [e] at hn
      exact hn h'
    unfold zp_w at g0 g1
    refine V_X4_passWord_5 ?_
    rw [e34, e33]
    simp only [eT]
    refine ⟨fun q1 => ⟨⟨by omega, by omega⟩, fun q2 => ?_, fun q3 => ⟨by omega, ⟨by omega, by omega⟩, fun q4 => ?_, fun q5 => ⟨by omega, ⟨by omega, by omega⟩, ⟨by omega, by omega⟩, fun q6 => ?_, fun q7 => ⟨by omega, ⟨by omega, by omega⟩, ⟨by omega, by omega⟩, fun q8 => ?_, fun q9 => ⟨by omega, ⟨by omega, by omega⟩, ⟨by omega, by omega⟩, fun q10 => ?_, fun q11 => ?_⟩⟩⟩⟩⟩, fun q12 => ⟨by omega, ⟨by omega, by omega⟩, fun q13 => ⟨⟨by omega, by omega⟩, fun q14 => ?_, fun q15 => ⟨by omega, ⟨by omega, by omega⟩, fun q16 => ?_, fun q17 => ⟨by omega, ⟨by omega, by omega⟩, ⟨by omega, by omega⟩, fun q18 => ?_, fun q19 => ⟨by omega, ⟨by omega, by omega⟩, ⟨by omega, by omega⟩, fun q20 => ?_, fun q21 => ⟨by omega, ⟨by omega, by omega⟩, ⟨by omega, by omega⟩, fun q22 => ?_, fun q23 => ?_⟩⟩⟩⟩⟩, fun q24 => ⟨by omega, ⟨by omega, by omega⟩, fun q25 => ⟨⟨by omega, by omega⟩, fun q26 => ?_, fun q27 => ⟨by omega, ⟨by omega, by omega⟩, fun q28 => ?_, fun q29 => ⟨by omega, ⟨by omega, by omega⟩, ⟨by omega, by omega⟩, fun q30 => ?_, fun q31 => ⟨by omega, ⟨by omega, by omega⟩, ⟨by omega, by omega⟩, fun q32 => ?_, fun q33 => ⟨by omega, ⟨by omega, by omega⟩, ⟨by omega, by omega⟩, fun q34 => ?_, fun q35 => ?_⟩⟩⟩⟩⟩, fun q36 => ⟨⟨by omega, by omega⟩, ?_⟩⟩⟩⟩
    all_goals first | exact g0 (by omega) (by omega) | exact g1 (by omega) (by omega) | skip
    rw [z_st_st]
    exact ih (by omega) (by rw [← he]; exact (zr_y (by omega) (by unfold zb_le; rw [decide_eq_true_eq]; omega)).symm)
  have := key _ (Int.le_refl _) h0.2 rfl
  rw [z_st_self rfl] at this
  exact V_X4_passWord this
/-- what is known of a number read, x, beside its value v -/
def zj_num (x v : Int) : Prop := (0 ≤ x ∧ x ≤ 6 ∧ x = v) ∨ (6 < x ∧ x ≤ 79 ∧ 6 < v)
theorem e_passNumber (hL : μ 3 3 ≤ 200) (h0 : 0 ≤ μ 3 4 ∧ μ 3 4 ≤ μ 3 3) (hT : μ 3 2 = 2) (hn : zr (zb_di (μ 2)) (μ 3 3) (μ 3 4) = μ 3 4 → K (-1) μ) (hy : ∀ x, μ 3 4 < zr (zb_di (μ 2)) (μ 3 3) (μ 3 4) → zj_num x (zv (μ 2) (zr (zb_di (μ 2)) (μ 3 3) (μ 3 4)) (μ 3 4) 0) → K x (z_st μ 3 4 (zr (zb_di (μ 2)) (μ 3 3) (μ 3 4)))) : z_ci m_X4_passNumber [(2, 3)] μ (d + 1) K := by
  have key : ∀ k, μ 3 4 ≤ k → k ≤ μ 3 3 → ∀ x v, zr (zb_di (μ 2)) (μ 3 3) k = zr (zb_di (μ 2)) (μ 3 3) (μ 3 4) → zv (μ 2) (zr (zb_di (μ 2)) (μ 3 3) (μ 3 4)) (μ 3 4) 0 = zv (μ 2) (zr (zb_di (μ 2)) (μ 3 3) (μ 3 4)) k v → (k = μ 3 4 ∧ x = -1 ∧ v = 0) ∨ (μ 3 4 < k ∧ zj_num x v) → z_ri m_X4_passNumber 2 [some (2, 3), some (0, x), none] (z_st μ 3 4 k) (d + 1) K := by
    refine z_up (fun k h1 h2 ih x v he hv hx => ?_)
    have e34 : z_st μ 3 4 k 3 4 = k := z_st_eq
    have e33 : z_st μ 3 4 k 3 3 = μ 3 3 := z_st_ni (by decide)
    have e32 : z_st μ 3 4 k 3 2 = 2 := by rw [z_st_ni (by decide)]; exact hT
    have eT : z_st μ 3 4 k 2 k = μ 2 k := z_st_ne (by decide)
    have fin : ¬ (k < μ 3 3 ∧ 48 ≤ μ 2 k ∧ μ 2 k ≤ 57) → K x (z_st μ 3 4 k) := fun h => by
      have e : zr (zb_di (μ 2)) (μ 3 3) (μ 3 4) = k := by
        rw [← he]
        exact zr_no (by unfold zb_di; rw [decide_eq_true_eq]; exact h)
      rcases hx with ⟨a1, a2, a3⟩ | ⟨a1, a2⟩
      · subst a1
        rw [z_st_self rfl, a2]
        exact hn e
      · have q := hy x
        rw [e] at q hv
        rw [hv, zv_no (Int.le_refl k)] at q
        exact q a1 a2
    have go : k < μ 3 3 → 48 ≤ μ 2 k → μ 2 k ≤ 57 → ∀ x', zj_num x' (10 * v + μ 2 k - 48) → z_ri m_X4_passNumber 2 [some (2, 3), some (0, x'), none] (z_st μ 3 4 (k + 1)) (d + 1) K := fun a1 a2 a3 x' hx' => by
      have ez := zr_y (P := zb_di (μ 2)) a1 (by unfold zb_di; rw [decide_eq_true_eq]; exact ⟨a2, a3⟩)
      have el := (zr_le (P := zb_di (μ 2)) (L := μ 3 3) (p := k + 1) (by omega)).1
      refine ih a1 x' (10 * v + μ 2 k - 48) (by rw [← he]; exact ez.symm) ?_ (Or.inr ⟨by omega, hx'⟩)
      rw [hv]
      exact zv_y (by omega)
    have hb : x = -1 ∨ (0 ≤ x ∧ x ≤ 79) := by
      rcases hx with h | ⟨_, h⟩
      · omega
      · unfold zj_num at h
        omega
    refine V_X4_passNumber_2 ?_
    rw [e34, e33, e32, eT]
    refine ⟨fun q1 => ?_, fun q2 => ⟨by omega, ⟨by omega, by omega⟩, fun q3 => ?_, fun q4 => ⟨by omega, ⟨by omega, by omega⟩, fun q5 => ?_, fun q6 => ⟨fun q7 => ⟨⟨by omega, by omega⟩, by omega, ⟨by omega, by omega⟩, ⟨by omega, by omega⟩, ⟨by omega, by omega⟩, ⟨by omega, by omega⟩, ?_⟩, fun q8 => ⟨by omega, ⟨by omega, by omega⟩, ⟨by omega, by omega⟩, ⟨by omega, by omega⟩, ⟨by omega, by omega⟩, ?_⟩⟩⟩⟩⟩
    · exact fin (by omega)
    · exact fin (by omega)
    · exact fin (by omega)
    · rw [z_st_st]
      refine go q2 q4 q6 _ ?_
      rcases hx with h | ⟨_, h⟩
      · omega
      · unfold zj_num at h ⊢
        omega
    · rw [z_st_st]
      refine go q2 q4 q6 _ ?_
      rcases hx with h | ⟨_, h⟩
      · unfold zj_num
        omega
      · unfold zj_num at h
        omega
  have := key _ (Int.le_refl _) h0.2 (-1) 0 rfl rfl (Or.inl ⟨rfl, rfl, rfl⟩)
  rw [z_st_self rfl] at this
  exact V_X4_passNumber this
end PA

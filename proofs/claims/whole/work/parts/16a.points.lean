/-! GLUINGS: points that come to be one -/
def zEq (U : Int → Int → Prop) (a b : Int) : Prop := ∀ P : Int → Prop, (∀ x y, U x y → (P x ↔ P y)) → (P a ↔ P b)
def zad (U : Int → Int → Prop) (x y : Int) : Int → Int → Prop := fun a b => U a b ∨ (a = x ∧ b = y)
def zun (S : Int → Int) (x y t : Int) : Int → Int := fun a => if S a = S x ∨ S a = S y then t else S a
def zRg (N : Int) (U : Int → Int → Prop) : Prop := ∀ x y, U x y → (0 ≤ x ∧ x < N) ∧ 0 ≤ y ∧ y < N
def zLb (N : Int) (U : Int → Int → Prop) (S : Int → Int) : Prop := ∀ a b, 0 ≤ a → a < N → 0 ≤ b → b < N → (S a = S b ↔ zEq U a b)
noncomputable def zwt (N : Int) (A : Int → Int) (U : Int → Int → Prop) (k : Int) : Int := zS N.toNat (fun j => if zpd (zEq U j k) = true then A j else 0)
def zsm (A S : Int → Int) (n : Nat) (r : Int) : Int := zS n (fun j => if S j = r then A j else 0)
section PO
variable {N a b c k x y t r : Int} {U V : Int → Int → Prop} {S A G w w' : Int → Int}
theorem zEq_r : zEq U a a := fun _ _ => Iff.rfl
theorem zEq_s (h : zEq U a b) : zEq U b a := fun P hP => (h P hP).symm
theorem zEq_t (h : zEq U a b) (h' : zEq U b c) : zEq U a c := fun P hP => (h P hP).trans (h' P hP)
theorem zEq_u (h : U a b) : zEq U a b := fun _ hP => hP a b h
theorem zEq_m (h : ∀ x y, U x y → zEq V x y) (e : zEq U a b) : zEq V a b := fun P hP => e P (fun x y u => h x y u P hP)
theorem zEq_ad (e : zEq U a b) : zEq (zad U x y) a b := zEq_m (fun _ _ u => zEq_u (Or.inl u)) e
theorem zRg_ad (h : zRg N U) (hx : 0 ≤ x ∧ x < N) (hy : 0 ≤ y ∧ y < N) : zRg N (zad U x y) := fun a b u => by
  rcases u with u | ⟨rfl, rfl⟩
  · exact h a b u
  · exact ⟨hx, hy⟩
theorem zLb_un (hr : zRg N U) (h : zLb N U S) (hx : 0 ≤ x ∧ x < N) (hy : 0 ≤ y ∧ y < N) (ht : t = S x ∨ t = S y) : zLb N (zad U x y) (zun S x y t) := by
  have exy : zEq (zad U x y) x y := zEq_u (Or.inr ⟨rfl, rfl⟩)
  have low : ∀ a b, 0 ≤ a → a < N → 0 ≤ b → b < N → S a = S b → zEq (zad U x y) a b := fun a b a0 a1 b0 b1 e => zEq_ad ((h a b a0 a1 b0 b1).mp e)
  have mer : ∀ a, 0 ≤ a → a < N → (S a = S x ∨ S a = S y) → zEq (zad U x y) a x := fun a a0 a1 e => by
    rcases e with e | e
    · exact low a x a0 a1 hx.1 hx.2 e
    · exact zEq_t (low a y a0 a1 hy.1 hy.2 e) (zEq_s exy)
  intro a b a0 a1 b0 b1
  constructor
  · intro e
    unfold zun at e
    by_cases ma : S a = S x ∨ S a = S y
    · by_cases mb : S b = S x ∨ S b = S y
      · exact zEq_t (mer a a0 a1 ma) (zEq_s (mer b b0 b1 mb))
      · rw [if_pos ma, if_neg mb] at e
        omega
    · by_cases mb : S b = S x ∨ S b = S y
      · rw [if_neg ma, if_pos mb] at e
        omega
      · rw [if_neg ma, if_neg mb] at e
        exact low a b a0 a1 b0 b1 e
  · intro e
    refine ((e (fun c => zun S x y t a = zun S x y t c) (fun u v huv => ?_)).mp rfl)
    have : zun S x y t u = zun S x y t v := by
      rcases huv with huv | ⟨rfl, rfl⟩
      · obtain ⟨⟨u0, u1⟩, v0, v1⟩ := hr u v huv
        have := (h u v u0 u1 v0 v1).mpr (zEq_u huv)
        unfold zun
        rw [this]
      · unfold zun
        rw [if_pos (Or.inl rfl), if_pos (Or.inr rfl)]
    rw [this]
theorem zLb_cg (h : zLb N U S) (e : ∀ a b, zEq U a b ↔ zEq V a b) : zLb N V S := fun a b a0 a1 b0 b1 => (h a b a0 a1 b0 b1).trans (e a b)
theorem zLb_0 : zLb N (fun _ _ => False) (fun k => k) := fun a b _ _ _ _ => ⟨fun e => by
    have e : a = b := e
    rw [e]
    exact zEq_r, fun e => (e (fun c => a = c) (fun _ _ u => absurd u (fun z => z))).mp rfl⟩
theorem zwt_cg (e : ∀ a b, zEq U a b ↔ zEq V a b) : zwt N A U k = zwt N A V k := by
  unfold zwt
  exact zS_eq _ (fun j _ _ => by rw [propext (e j k)])
theorem zwt_eq (e : zEq U a b) : zwt N A U a = zwt N A U b := by
  unfold zwt
  exact zS_eq _ (fun j _ _ => by rw [propext (⟨fun h => zEq_t h e, fun h => zEq_t h (zEq_s e)⟩ : zEq U j a ↔ zEq U j b)])
theorem zwt_le (hA : ∀ j, 0 ≤ j → j < N → 0 ≤ A j) (e : ∀ j, zEq U j k → zEq V j k) : zwt N A U k ≤ zwt N A V k := by
  unfold zwt
  refine zS_le _ (fun j j0 j1 => ?_)
  have := hA j j0 (by omega)
  by_cases w : zEq U j k
  · rw [if_pos (zpd_t w), if_pos (zpd_t (e j w))]
    exact Int.le_refl _
  · rw [if_neg (by rw [zpd_f w]; decide)]
    split
    · exact this
    · exact Int.le_refl _
theorem zwt_lb (h : zLb N U S) (hk : 0 ≤ k ∧ k < N) : zwt N A U k = zsm A S N.toNat (S k) := by
  unfold zwt zsm
  refine zS_eq _ (fun j j0 j1 => ?_)
  have := h j k j0 (by omega) hk.1 hk.2
  by_cases w : S j = S k
  · rw [if_pos w, if_pos (zpd_t (this.mp w))]
  · rw [if_neg w, if_neg (by rw [zpd_f (fun q => w (this.mpr q))]; decide)]
/-- what is glued so far -/
def zU (N : Int) (w : Int → Int) : Int → Int → Prop := fun x y => (0 ≤ x ∧ x < N) ∧ 0 ≤ w x ∧ y = (w x + 1) % N
def zVa (N : Int) (A w : Int → Int) : Prop := ∀ k, 0 ≤ k → k < N → zwt N A (zU N w) k ≤ 4
def zgp (w : Int → Int) (i j : Int) : Int → Int := fun k => if k = i then j else if k = j then i else w k
theorem zU_rg (hN : 0 < N) : zRg N (zU N w) := fun x y h => by
  obtain ⟨h1, h2, h3⟩ := h
  have := Int.emod_nonneg (w x + 1) (b := N) (by omega)
  have := Int.emod_lt_of_pos (w x + 1) (b := N) hN
  omega
theorem zU_pt {i j : Int} (hi : 0 ≤ i) (hij : i < j) (hj : j < N) (oi : w i = -1) (oj : w j = -1) : ∀ a b, zEq (zU N (zgp w i j)) a b ↔ zEq (zad (zad (zU N w) i ((j + 1) % N)) (i + 1) j) a b := by
  intro a b
  have e1 : zgp w i j i = j := by unfold zgp; rw [if_pos rfl]
  have e2 : zgp w i j j = i := by unfold zgp; rw [if_neg (by omega), if_pos rfl]
  have e3 : ∀ k, k ≠ i → k ≠ j → zgp w i j k = w k := fun k h1 h2 => by unfold zgp; rw [if_neg h1, if_neg h2]
  have m1 : (i + 1) % N = i + 1 := Int.emod_eq_of_lt (by omega) (by omega)
  constructor
  · refine zEq_m (fun x y h => ?_)
    obtain ⟨h1, h2, h3⟩ := h
    by_cases w1 : x = i
    · subst w1
      rw [e1] at h3
      exact zEq_u (Or.inl (Or.inr ⟨rfl, h3⟩))
    · by_cases w2 : x = j
      · subst w2
        rw [e2, m1] at h3
        rw [h3]
        exact zEq_s (zEq_u (Or.inr ⟨rfl, rfl⟩))
      · rw [e3 x w1 w2] at h2 h3
        exact zEq_u (Or.inl (Or.inl ⟨h1, h2, h3⟩))
  · refine zEq_m (fun x y h => ?_)
    rcases h with (h | ⟨rfl, rfl⟩) | ⟨rfl, rfl⟩
    · obtain ⟨h1, h2, h3⟩ := h
      have w1 : x ≠ i := fun q => by rw [q, oi] at h2; omega
      have w2 : x ≠ j := fun q => by rw [q, oj] at h2; omega
      refine zEq_u ⟨h1, ?_, ?_⟩
      · rw [e3 x w1 w2]
        exact h2
      · rw [e3 x w1 w2]
        exact h3
    · exact zEq_u ⟨⟨hi, by omega⟩, by rw [e1]; omega, by rw [e1]⟩
    · exact zEq_s (zEq_u ⟨⟨by omega, hj⟩, by rw [e2]; exact hi, by rw [e2, m1]⟩)
theorem zU_ag (h : ∀ t, 0 ≤ t → t < N → w t = w' t) : ∀ a b, zEq (zU N w) a b ↔ zEq (zU N w') a b := fun a b =>
  ⟨zEq_m (fun x y q => zEq_u ⟨q.1, by rw [← h x q.1.1 q.1.2]; exact q.2.1, by rw [← h x q.1.1 q.1.2]; exact q.2.2⟩), zEq_m (fun x y q => zEq_u ⟨q.1, by rw [h x q.1.1 q.1.2]; exact q.2.1, by rw [h x q.1.1 q.1.2]; exact q.2.2⟩)⟩
theorem zVa_ag (h : ∀ t, 0 ≤ t → t < N → w t = w' t) (v : zVa N A w) : zVa N A w' := fun k k0 k1 => by
  rw [← zwt_cg (zU_ag h)]
  exact v k k0 k1
/-- more is glued -/
def zex (N : Int) (w w' : Int → Int) : Prop := ∀ t, 0 ≤ t → t < N → 0 ≤ w t → w' t = w t
theorem zex_U (h : zex N w w') : ∀ a b, zEq (zU N w) a b → zEq (zU N w') a b := fun a b => zEq_m (fun x y q => zEq_u ⟨q.1, by rw [h x q.1.1 q.1.2 q.2.1]; exact q.2.1, by rw [h x q.1.1 q.1.2 q.2.1]; exact q.2.2⟩)
theorem zex_V (hA : ∀ j, 0 ≤ j → j < N → 0 ≤ A j) (h : zex N w w') (v : zVa N A w') : zVa N A w := fun k k0 k1 => by
  have := zwt_le (N := N) (A := A) (k := k) hA (fun j q => zex_U h j k q)
  have := v k k0 k1
  omega
end PO

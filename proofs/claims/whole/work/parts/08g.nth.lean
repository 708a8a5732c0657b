/-! the k-th of those below m for which P holds -/
def zel (P : Int → Bool) (m : Int) (f : Int) : Int := zr (fun j => !(P j && decide (zN j.toNat P = f))) m 0
theorem zr_hit {P : Int → Bool} {L : Int} : ∀ p : Int, 0 ≤ p → p ≤ L → (∃ j, p ≤ j ∧ j < L ∧ P j = false) → zr P L p < L := by
  refine z_up (fun p h1 h2 ih => ?_)
  rintro ⟨j, a, b, c⟩
  by_cases q : P p = true
  · rw [zr_y (by omega) q]
    refine ih (by omega) ⟨j, ?_, b, c⟩
    rcases (by omega : p = j ∨ p + 1 ≤ j) with r | r
    · subst r
      rw [c] at q
      cases q
    · exact r
  · rw [zr_no (fun x => q x.2)]
    omega
theorem zN_lt' {P : Int → Bool} {i j : Int} (hi : 0 ≤ i) (h : i < j) (hp : P i = true) : zN i.toNat P < zN j.toNat P := by
  have := zN_lt_of (P := P) (i := i.toNat) (j := j.toNat) (by omega) (by rw [show ((i.toNat : Nat) : Int) = i by omega]; exact hp)
  exact this
theorem zN_up {P : Int → Bool} {k : Int} (h : 0 ≤ k) : zN (k + 1).toNat P = zN k.toNat P + zi (P k) := by
  rw [show (k + 1).toNat = k.toNat + 1 by omega, zN_s, show ((k.toNat : Nat) : Int) = k by omega]
theorem zN_surj {P : Int → Bool} {f : Int} (h0 : 0 ≤ f) : ∀ m : Nat, f < zN m P → ∃ j : Int, 0 ≤ j ∧ j < m ∧ P j = true ∧ zN j.toNat P = f := by
  intro m
  induction m with
  | zero =>
    intro h
    have : zN 0 P = 0 := rfl
    omega
  | succ m ih =>
    intro h
    by_cases q : f < zN m P
    · obtain ⟨j, a, b, c, e⟩ := ih q
      exact ⟨j, a, by omega, c, e⟩
    · rw [zN_s] at h
      have r := zi_r (P m)
      refine ⟨m, by omega, by omega, ?_, ?_⟩
      · cases hp : P m with
        | true => rfl
        | false =>
          rw [hp] at h
          have : zi false = 0 := rfl
          omega
      · rw [show ((m : Int)).toNat = m by omega]
        omega
theorem zel_of {P : Int → Bool} {m j : Int} (hj : 0 ≤ j ∧ j < m) (hp : P j = true) : zel P m (zN j.toNat P) = j := by
  unfold zel
  have hm : 0 ≤ m := by omega
  have h := zr_hit (P := fun i => !(P i && decide (zN i.toNat P = zN j.toNat P))) (L := m) 0 (by omega) hm ⟨j, hj.1, hj.2, by simp [hp]⟩
  have he := zr_end (P := fun i => !(P i && decide (zN i.toNat P = zN j.toNat P))) (L := m) (p := 0) hm h
  have hl := zr_le (P := fun i => !(P i && decide (zN i.toNat P = zN j.toNat P))) (L := m) (p := 0) hm
  generalize zr (fun i => !(P i && decide (zN i.toNat P = zN j.toNat P))) m 0 = i at h he hl
  have he' : (P i && decide (zN i.toNat P = zN j.toNat P)) = true := by simpa using he
  rw [Bool.and_eq_true, decide_eq_true_iff] at he'
  rcases (by omega : i < j ∨ i = j ∨ j < i) with q | q | q
  · have := zN_lt' hl.1 q he'.1
    omega
  · exact q
  · have := zN_lt' hj.1 q hp
    omega
theorem zel_in {P : Int → Bool} {m f : Int} (h0 : 0 ≤ f) (h : f < zN m.toNat P) : 0 ≤ zel P m f ∧ zel P m f < m ∧ P (zel P m f) = true ∧ zN (zel P m f).toNat P = f := by
  obtain ⟨j, a, b, c, e⟩ := zN_surj h0 _ h
  have hj : 0 ≤ j ∧ j < m := ⟨a, by omega⟩
  have := zel_of hj c
  rw [e] at this
  rw [this]
  exact ⟨hj.1, hj.2, c, e⟩
/-! directions and looks -/
def zx (d : Int) : Int := ((d.toNat ^^^ (1 : Int).toNat : Nat) : Int)
def zlk (d t : Int) : Int := z_S 0 (4 * d + t)
def zsd (d l : Int) : Int := if zlk d 0 = l then 0 else if zlk d 1 = l then 1 else if zlk d 2 = l then 2 else 3
theorem zd6 {P : Int → Prop} {d : Int} (h : 0 ≤ d ∧ d < 6) (a0 : P 0) (a1 : P 1) (a2 : P 2) (a3 : P 3) (a4 : P 4) (a5 : P 5) : P d := by
  rcases (by omega : d = 0 ∨ d = 1 ∨ d = 2 ∨ d = 3 ∨ d = 4 ∨ d = 5) with rfl | rfl | rfl | rfl | rfl | rfl <;> assumption
theorem zd4 {P : Int → Prop} {d : Int} (h : 0 ≤ d ∧ d < 4) (a0 : P 0) (a1 : P 1) (a2 : P 2) (a3 : P 3) : P d := by
  rcases (by omega : d = 0 ∨ d = 1 ∨ d = 2 ∨ d = 3) with rfl | rfl | rfl | rfl <;> assumption
def zpp (d l : Int) : Prop := 0 ≤ d ∧ d < 6 ∧ 0 ≤ l ∧ l < 6 ∧ d / 2 ≠ l / 2
theorem zx_r {d : Int} (h : 0 ≤ d ∧ d < 6) : 0 ≤ zx d ∧ zx d < 6 ∧ zx d / 2 = d / 2 ∧ zx (zx d) = d ∧ zx d ≠ d := by
  refine zd6 (P := fun d => 0 ≤ zx d ∧ zx d < 6 ∧ zx d / 2 = d / 2 ∧ zx (zx d) = d ∧ zx d ≠ d) h ?_ ?_ ?_ ?_ ?_ ?_ <;> decide
theorem zx_st {d c : Int} (h : 0 ≤ d ∧ d < 6) : zst (zx d) c = - zst d c := by
  have e : zx d / 2 = d / 2 := (zx_r h).2.2.1
  have n1 : zx d ≠ -1 := by have := (zx_r h).1; omega
  have m : zx d % 2 = 0 ↔ ¬ d % 2 = 0 := by
    refine zd6 (P := fun d => zx d % 2 = 0 ↔ ¬ d % 2 = 0) h ?_ ?_ ?_ ?_ ?_ ?_ <;> decide
  unfold zst
  rw [if_neg n1, if_neg (show d ≠ -1 by omega), e]
  by_cases q : d / 2 = c
  · rw [if_pos q, if_pos q]
    by_cases r : d % 2 = 0
    · rw [if_pos r, if_neg (by rw [m]; exact fun x => x r)]
    · rw [if_neg r, if_pos (m.mpr r)]
      rfl
  · rw [if_neg q, if_neg q]
    rfl
theorem zlk_p {d t : Int} (hd : 0 ≤ d ∧ d < 6) (ht : 0 ≤ t ∧ t < 4) : zpp d (zlk d t) ∧ zsd d (zlk d t) = t := by
  have key : ∀ t, 0 ≤ t ∧ t < 4 → (∀ d, 0 ≤ d ∧ d < 6 → ((0 ≤ zlk d t ∧ zlk d t < 6 ∧ d / 2 ≠ zlk d t / 2) ∧ zsd d (zlk d t) = t)) := by
    intro t ht
    refine zd4 (P := fun t => ∀ d, 0 ≤ d ∧ d < 6 → ((0 ≤ zlk d t ∧ zlk d t < 6 ∧ d / 2 ≠ zlk d t / 2) ∧ zsd d (zlk d t) = t)) ht ?_ ?_ ?_ ?_ <;> (intro d hd; refine zd6 (P := fun d => ((0 ≤ zlk d _ ∧ zlk d _ < 6 ∧ d / 2 ≠ zlk d _ / 2) ∧ zsd d (zlk d _) = _)) hd ?_ ?_ ?_ ?_ ?_ ?_ <;> decide +kernel)
  obtain ⟨⟨a, b, c⟩, e⟩ := key t ht d hd
  exact ⟨⟨hd.1, hd.2, a, b, c⟩, e⟩
theorem zsd_p {d l : Int} (h : zpp d l) : 0 ≤ zsd d l ∧ zsd d l < 4 ∧ zlk d (zsd d l) = l := by
  have key : ∀ d, 0 ≤ d ∧ d < 6 → ∀ l, 0 ≤ l ∧ l < 6 → d / 2 ≠ l / 2 → 0 ≤ zsd d l ∧ zsd d l < 4 ∧ zlk d (zsd d l) = l := by
    intro d hd
    refine zd6 (P := fun d => ∀ l, 0 ≤ l ∧ l < 6 → d / 2 ≠ l / 2 → 0 ≤ zsd d l ∧ zsd d l < 4 ∧ zlk d (zsd d l) = l) hd ?_ ?_ ?_ ?_ ?_ ?_ <;> (intro l hl; refine zd6 (P := fun l => _ / 2 ≠ l / 2 → 0 ≤ zsd _ l ∧ zsd _ l < 4 ∧ zlk _ (zsd _ l) = l) hl ?_ ?_ ?_ ?_ ?_ ?_ <;> decide +kernel)
  exact key d ⟨h.1, h.2.1⟩ l ⟨h.2.2.1, h.2.2.2.1⟩ h.2.2.2.2

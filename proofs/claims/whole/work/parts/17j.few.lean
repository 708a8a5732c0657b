/-! THREE CUBES AND MORE have more than ten FACES; skins hang on where CUBES lie to one another alone -/
def zdf (s t : Int → Int) (n : Int) : Prop := ∀ a b c, 0 ≤ a → a < n → 0 ≤ b → b < n → 0 ≤ c → c < 3 → s (3 * a + c) - s (3 * b + c) = t (3 * a + c) - t (3 * b + c)
/-- in one row along direction d -/
noncomputable def zsc (s : Int → Int) (d a b : Int) : Bool := zpd (∀ c, 0 ≤ c → c < 3 → c ≠ d / 2 → s (3 * a + c) = s (3 * b + c))
section FW
variable {s t : Int → Int} {n k d e a b j : Int} {P Q : Int → Bool} {L p : Int}
theorem zr_cg : ∀ p, p ≤ L → (∀ i, p ≤ i → i < L → P i = Q i) → zr P L p = zr Q L p := by
  intro p hp
  refine z_up (P := fun p => (∀ i, p ≤ i → i < L → P i = Q i) → zr P L p = zr Q L p) (lo := p) (N := L) (fun k k0 k1 ih h => ?_) p (Int.le_refl _) hp
  by_cases q : k < L ∧ P k = true
  · rw [zr_y q.1 q.2, zr_y q.1 (by rw [← h k (Int.le_refl _) q.1]; exact q.2)]
    exact ih q.1 (fun i i0 i1 => h i (by omega) i1)
  · rw [zr_no q, zr_no (fun z => q ⟨z.1, by rw [h k (Int.le_refl _) z.1]; exact z.2⟩)]
theorem zk_cg (h : zdf s t n) (hk : 0 ≤ k ∧ k < n) : zk s n k d e = zk t n k d e := by
  have e1 : zr (fun q => !zat s q k d e) n 0 = zr (fun q => !zat t q k d e) n 0 := zr_cg 0 (by omega) (fun q q0 q1 => by
    have h0 := h q k 0 q0 q1 hk.1 hk.2 (by omega) (by omega)
    have h1 := h q k 1 q0 q1 hk.1 hk.2 (by omega) (by omega)
    have h2 := h q k 2 q0 q1 hk.1 hk.2 (by omega) (by omega)
    have : zat s q k d e = zat t q k d e := by
      unfold zat
      refine decide_eq_decide.mpr ⟨fun x => ⟨by omega, by omega, by omega⟩, fun x => ⟨by omega, by omega, by omega⟩⟩
    show (!zat s q k d e) = (!zat t q k d e)
    rw [this])
  unfold zk
  rw [e1]
theorem zk_r : zk s n k d e = -1 ∨ (0 ≤ zk s n k d e ∧ zk s n k d e < n ∧ zat s (zk s n k d e) k d e = true) := by
  by_cases hn : 0 ≤ n
  · have r := zr_le (P := fun q => !zat s q k d e) (L := n) (p := 0) hn
    unfold zk
    by_cases q : zr (fun q => !zat s q k d e) n 0 < n
    · rw [if_pos q]
      have := zr_end (P := fun q => !zat s q k d e) (L := n) (p := 0) hn q
      refine Or.inr ⟨r.1, q, ?_⟩
      have this : (!zat s (zr (fun q => !zat s q k d e) n 0) k d e) = false := this
      cases hz : zat s (zr (fun q => !zat s q k d e) n 0) k d e with
      | true => rfl
      | false => rw [hz] at this; cases this
    · rw [if_neg q]
      exact Or.inl rfl
  · unfold zk
    rw [zr_no (by omega), if_neg (by omega)]
    exact Or.inl rfl
theorem zfr_cg (h : zdf s t n) (hj : 0 ≤ j ∧ j < 6 * n) : zfr s n j = zfr t n j := by
  unfold zfr
  rw [zk_cg h ⟨by omega, by omega⟩]
theorem zN_fr (h : zdf s t n) {m : Nat} (hm : (m : Int) ≤ 6 * n) : zN m (zfr s n) = zN m (zfr t n) := zN_eq _ (fun j j0 j1 => zfr_cg h ⟨j0, by omega⟩)
theorem zFs_cg (hn : 0 ≤ n) (h : zdf s t n) : zFs s n = zFs t n := zN_fr h (by omega)
theorem zel_cg (hn : 0 ≤ n) (h : zdf s t n) (f : Int) : zel (zfr s n) (6 * n) f = zel (zfr t n) (6 * n) f := by
  unfold zel
  refine zr_cg 0 (by omega) (fun i i0 i1 => ?_)
  show (!(zfr s n i && decide (zN i.toNat (zfr s n) = f))) = (!(zfr t n i && decide (zN i.toNat (zfr t n) = f)))
  rw [zfr_cg h ⟨i0, i1⟩, zN_fr h (by omega)]
theorem zso_cg (h : zdf s t n) {c l : Int} (hc : 0 ≤ c ∧ c < n) (hd : 0 ≤ d ∧ d < 6) : zso s n c d l = zso t n c d l := by
  unfold zso
  rw [zN_fr h (by omega)]
theorem zac_cg (hn : 0 ≤ n) (h : zdf s t n) (hk : 0 ≤ k ∧ k < 4 * zFs t n) : zac s n k = zac t n k := by
  obtain ⟨c1, d1, _⟩ := zcd (s := t) (f := k / 4) hn (by omega)
  have ec : zcu s n (k / 4) = zcu t n (k / 4) := by unfold zcu; rw [zel_cg hn h]
  have ed : zdi s n (k / 4) = zdi t n (k / 4) := by unfold zdi; rw [zel_cg hn h]
  have lp := (zlk_p (d := zdi t n (k / 4)) (t := k % 4) d1 (by omega)).1
  have xl := zx_r (d := zlk (zdi t n (k / 4)) (k % 4)) ⟨lp.2.2.1, lp.2.2.2.1⟩
  have xd := zx_r (d := zdi t n (k / 4)) d1
  unfold zac
  rw [ec, ed]
  generalize zcu t n (k / 4) = c at *
  generalize zdi t n (k / 4) = d at *
  generalize zlk d (k % 4) = l at *
  unfold zar
  rw [zk_cg h c1, zk_cg h c1]
  by_cases q : zk t n c d l = -1
  · rw [if_pos q, if_pos q]
    by_cases q2 : zk t n c l (-1) = -1
    · rw [if_pos q2, if_pos q2]
      exact zso_cg h c1 ⟨lp.2.2.1, lp.2.2.2.1⟩
    · rw [if_neg q2, if_neg q2]
      rcases zk_r (s := t) (n := n) (k := c) (d := l) (e := -1) with z | z
      · exact absurd z q2
      · exact zso_cg h ⟨z.1, z.2.1⟩ d1
  · rw [if_neg q, if_neg q]
    rcases zk_r (s := t) (n := n) (k := c) (d := d) (e := l) with z | z
    · exact absurd z q
    · exact zso_cg h ⟨z.1, z.2.1⟩ ⟨xl.1, xl.2.1⟩
theorem zsc_i : zsc s d a b = true ↔ ∀ c, 0 ≤ c → c < 3 → c ≠ d / 2 → s (3 * a + c) = s (3 * b + c) := by
  unfold zsc
  exact zpd_i
/-- the last one of a row has a FACE there -/
theorem zext (h6 : z_c6 s (3 * n)) (hd : 0 ≤ d ∧ d < 6) : ∀ (f : Nat) (a : Int), 0 ≤ a → a < n → (d % 2 = 0 → 6 - s (3 * a + d / 2) < f) → (d % 2 = 1 → s (3 * a + d / 2) < f) → ∃ q, (0 ≤ q ∧ q < n) ∧ zfr s n (6 * q + d) = true ∧ zsc s d q a = true
  | 0, a, a0, a1, h1, h2 => by
    have := h6 (3 * a + d / 2) (by omega) (by omega)
    omega
  | f + 1, a, a0, a1, h1, h2 => by
    by_cases z : zfr s n (6 * a + d) = true
    · exact ⟨a, ⟨a0, a1⟩, z, zsc_i.mpr (fun _ _ _ _ => rfl)⟩
    · have z2 : zk s n a d (-1) ≠ -1 := fun q => z (by
        unfold zfr
        rw [show (6 * a + d) / 6 = a by omega, show (6 * a + d) % 6 = d by omega]
        exact decide_eq_true q)
      rcases zk_r (s := s) (n := n) (k := a) (d := d) (e := -1) with y | ⟨y0, y1, y2⟩
      · exact absurd y z2
      · generalize zk s n a d (-1) = q at y0 y1 y2
        unfold zat at y2
        obtain ⟨w0, w1, w2⟩ := of_decide_eq_true y2
        have e1 : ∀ c, zst (-1) c = 0 := fun c => by unfold zst; rw [if_pos rfl]
        rw [e1] at w0 w1 w2
        have st : ∀ c, zst d c = if d / 2 = c then (if d % 2 = 0 then 1 else -1) else 0 := fun c => by unfold zst; rw [if_neg (by omega)]
        have all : ∀ c, 0 ≤ c → c < 3 → s (3 * q + c) = s (3 * a + c) + zst d c := fun c c0 c1 => by
          rcases (by omega : c = 0 ∨ c = 1 ∨ c = 2) with rfl | rfl | rfl <;> omega
        have ax := all (d / 2) (by omega) (by omega)
        rw [st, if_pos rfl] at ax
        obtain ⟨q', r1, r2, r3⟩ := zext h6 hd f q y0 y1 (fun w => by have := h1 w; rw [if_pos w] at ax; omega) (fun w => by have := h2 w; rw [if_neg (by omega)] at ax; omega)
        refine ⟨q', r1, r2, zsc_i.mpr (fun c c0 c1 ne => ?_)⟩
        rw [zsc_i.mp r3 c c0 c1 ne, all c c0 c1, st, if_neg (fun z => ne z.symm)]
        omega
theorem zF_12 (hn : 3 ≤ n ∧ n ≤ 7) (h6 : z_c6 s (3 * n)) (hst : zSt s n) : 12 ≤ zFs s n := by
  have hD := zSt_Ds hst
  have ex : ∀ i : Int, ∃ q : Int, 0 ≤ i → i < 18 → (0 ≤ q ∧ q < n) ∧ zfr s n (6 * q + i % 6) = true ∧ zsc s (i % 6) q (i / 6) = true := fun i => by
    by_cases z : 0 ≤ i ∧ i < 18
    · have b := h6 (3 * (i / 6) + i % 6 / 2) (by omega) (by omega)
      obtain ⟨q, h⟩ := zext h6 (d := i % 6) (by omega) 8 (i / 6) (by omega) (by omega) (fun _ => by omega) (fun _ => by omega)
      exact ⟨q, fun _ _ => h⟩
    · exact ⟨0, fun a b => absurd ⟨a, b⟩ z⟩
  have hg := fun i => Classical.choose_spec (ex i)
  generalize hG : (fun i => Classical.choose (ex i)) = G
  have hg : ∀ i, 0 ≤ i → i < 18 → (0 ≤ G i ∧ G i < n) ∧ zfr s n (6 * G i + i % 6) = true ∧ zsc s (i % 6) (G i) (i / 6) = true := fun i => by rw [← hG]; exact hg i
  have tr : ∀ {d a b c : Int}, zsc s d a b = true → zsc s d a c = true → zsc s d b c = true := fun h1 h2 => zsc_i.mpr (fun c c0 c1 ne => by rw [← zsc_i.mp h1 c c0 c1 ne]; exact zsc_i.mp h2 c c0 c1 ne)
  have sy : ∀ {d a b : Int}, zsc s d a b = true → zsc s d b a = true := fun h => zsc_i.mpr (fun c c0 c1 ne => (zsc_i.mp h c c0 c1 ne).symm)
  have cnt := zN_ij (P := fun i => (decide (i / 6 = 0)) || (decide (i / 6 = 1) && !zsc s (i % 6) 1 0) || (decide (i / 6 = 2) && !zsc s (i % 6) 2 0 && !zsc s (i % 6) 2 1)) (g := fun i => 6 * G i + i % 6) (k := 6 * n.toNat) 18 (zfr s n) (fun i i0 i1 _ => by
    obtain ⟨a, b, c⟩ := hg i i0 i1
    exact ⟨by omega, b⟩) (fun i j i0 i1 j0 j1 pi pj e => by
    have e' : 6 * G i + i % 6 = 6 * G j + j % 6 := e
    obtain ⟨a1, a2, a3⟩ := hg i i0 i1
    obtain ⟨b1, b2, b3⟩ := hg j j0 j1
    have em : i % 6 = j % 6 := by omega
    have eg : G i = G j := by omega
    rw [eg, em] at a3
    have sc := tr a3 b3
    have sc' := sy sc
    rw [em] at pi
    simp only [Bool.or_eq_true, Bool.and_eq_true, decide_eq_true_eq, Bool.not_eq_true'] at pi pj
    have q : i / 6 = j / 6 := by
      rcases pi with (pi | pi) | pi <;> rcases pj with (pj | pj) | pj
      · omega
      · rw [pi, pj.1] at sc'
        rw [pj.2] at sc'
        cases sc'
      · rw [pi, pj.1.1] at sc'
        rw [pj.1.2] at sc'
        cases sc'
      · rw [pi.1, pj] at sc
        rw [pi.2] at sc
        cases sc
      · omega
      · rw [pi.1, pj.1.1] at sc'
        rw [pj.2] at sc'
        cases sc'
      · rw [pi.1.1, pj] at sc
        rw [pi.1.2] at sc
        cases sc
      · rw [pi.1.1, pj.1] at sc
        rw [pi.2] at sc
        cases sc
      · omega
    omega)
  have e : zFs s n = zN (6 * n.toNat) (zfr s n) := rfl
  rw [e]
  refine Int.le_trans ?_ cnt
  -- of two CUBES that are in a row one way, none the other ways
  have two : ∀ a b : Int, 0 ≤ a → a < n → 0 ≤ b → b < n → a ≠ b → ∀ d d' : Int, 0 ≤ d → d < 6 → 0 ≤ d' → d' < 6 → d / 2 ≠ d' / 2 → zsc s d a b = true → zsc s d' a b = false := fun a b a0 a1 b0 b1 ne d d' x0 x1 y0 y1 z h => by
    cases hz : zsc s d' a b with
    | false => rfl
    | true =>
      refine absurd (hD a b a0 a1 b0 b1 ?_ ?_ ?_) ne
      · by_cases w : (0 : Int) = d / 2
        · exact zsc_i.mp hz 0 (by omega) (by omega) (by omega)
        · exact zsc_i.mp h 0 (by omega) (by omega) w
      · by_cases w : (1 : Int) = d / 2
        · exact zsc_i.mp hz 1 (by omega) (by omega) (by omega)
        · exact zsc_i.mp h 1 (by omega) (by omega) w
      · by_cases w : (2 : Int) = d / 2
        · exact zsc_i.mp hz 2 (by omega) (by omega) (by omega)
        · exact zsc_i.mp h 2 (by omega) (by omega) w
  have ev : ∀ a b : Int, zsc s 1 a b = zsc s 0 a b ∧ zsc s 3 a b = zsc s 2 a b ∧ zsc s 5 a b = zsc s 4 a b := fun a b => ⟨rfl, rfl, rfl⟩
  have t01 := two 1 0 (by omega) (by omega) (by omega) (by omega) (by omega)
  have t02 := two 2 0 (by omega) (by omega) (by omega) (by omega) (by omega)
  have t12 := two 2 1 (by omega) (by omega) (by omega) (by omega) (by omega)
  have u01 := ev 1 0
  have u02 := ev 2 0
  have u12 := ev 2 1
  have a1 := t01 0 2 (by decide) (by decide) (by decide) (by decide) (by decide)
  have a2 := t01 0 4 (by decide) (by decide) (by decide) (by decide) (by decide)
  have a3 := t01 2 4 (by decide) (by decide) (by decide) (by decide) (by decide)
  have b1 := t02 0 2 (by decide) (by decide) (by decide) (by decide) (by decide)
  have b2 := t02 0 4 (by decide) (by decide) (by decide) (by decide) (by decide)
  have b3 := t02 2 4 (by decide) (by decide) (by decide) (by decide) (by decide)
  have c1 := t12 0 2 (by decide) (by decide) (by decide) (by decide) (by decide)
  have c2 := t12 0 4 (by decide) (by decide) (by decide) (by decide) (by decide)
  have c3 := t12 2 4 (by decide) (by decide) (by decide) (by decide) (by decide)
  have nb : ∀ {x y : Bool}, (x = true → y = false) → (!(x && y)) = true := fun {x y} h => by
    cases x
    · rfl
    · rw [h rfl]
      rfl
  have v1 : ∀ x y z : Bool, (!(x && y)) = true → (!(x && z)) = true → (!(y && z)) = true → (2 : Int) ≤ zi (!x) + zi (!y) + zi (!z) := by decide
  have v2 : ∀ x y z x2 y2 z2 : Bool, ((!(x && y)) && (!(x && z)) && (!(y && z)) && (!(x2 && y2)) && (!(x2 && z2)) && (!(y2 && z2))) = true → (1 : Int) ≤ zi (!x && !x2) + zi (!y && !y2) + zi (!z && !z2) := by decide
  have w1 := v1 (zsc s 0 1 0) (zsc s 2 1 0) (zsc s 4 1 0) (nb a1) (nb a2) (nb a3)
  have w2 := v2 (zsc s 0 2 0) (zsc s 2 2 0) (zsc s 4 2 0) (zsc s 0 2 1) (zsc s 2 2 1) (zsc s 4 2 1) (by rw [nb b1, nb b2, nb b3, nb c1, nb c2, nb c3]; rfl)
  have sum : zN 18 (fun i => (decide (i / 6 = 0)) || (decide (i / 6 = 1) && !zsc s (i % 6) 1 0) || (decide (i / 6 = 2) && !zsc s (i % 6) 2 0 && !zsc s (i % 6) 2 1)) = 0 + 1 + 1 + 1 + 1 + 1 + 1 + zi (!zsc s 0 1 0) + zi (!zsc s 1 1 0) + zi (!zsc s 2 1 0) + zi (!zsc s 3 1 0) + zi (!zsc s 4 1 0) + zi (!zsc s 5 1 0) + zi (!zsc s 0 2 0 && !zsc s 0 2 1) + zi (!zsc s 1 2 0 && !zsc s 1 2 1) + zi (!zsc s 2 2 0 && !zsc s 2 2 1) + zi (!zsc s 3 2 0 && !zsc s 3 2 1) + zi (!zsc s 4 2 0 && !zsc s 4 2 1) + zi (!zsc s 5 2 0 && !zsc s 5 2 1) := by
    have o : ∀ x : Bool, zi ((false || (true && !x)) || (false && !x && !x)) = zi (!x) := fun x => by cases x <;> rfl
    simp only [zN_s]
    simp [zN, zS, zi]
  rw [sum, u01.1, u01.2.1, u01.2.2, u02.1, u02.2.1, u02.2.2, u12.1, u12.2.1, u12.2.2]
  omega
end FW

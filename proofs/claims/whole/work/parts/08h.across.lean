/-! SIDES: what is behind -/
def zcu (s : Int → Int) (n f : Int) : Int := zel (zfr s n) (6 * n) f / 6
def zdi (s : Int → Int) (n f : Int) : Int := zel (zfr s n) (6 * n) f % 6
def zFs (s : Int → Int) (n : Int) : Int := zN (6 * n.toNat) (zfr s n)
def zso (s : Int → Int) (n c d l : Int) : Int := 4 * zN (6 * c + d).toNat (zfr s n) + zsd d l
def zar (s : Int → Int) (n c d l : Int) : Int := if zk s n c d l = -1 then (if zk s n c l (-1) = -1 then zso s n c l d else zso s n (zk s n c l (-1)) d (zx l)) else zso s n (zk s n c d l) (zx l) (zx d)
def zac (s : Int → Int) (n k : Int) : Int := zar s n (zcu s n (k / 4)) (zdi s n (k / 4)) (zlk (zdi s n (k / 4)) (k % 4))
def zbe (s : Int → Int) (n c d l : Int) : Int := if zk s n c d l = -1 then (if zk s n c l (-1) = -1 then 0 else 1) else 2
section ZA
variable {s : Int → Int} {n c d l k f : Int}
theorem zFs_e (hn : 0 ≤ n) : zFs s n = zN (6 * n).toNat (zfr s n) := by
  unfold zFs
  rw [show 6 * n.toNat = (6 * n).toNat by omega]
theorem zcd (hn : 0 ≤ n) (h : 0 ≤ f ∧ f < zFs s n) : (0 ≤ zcu s n f ∧ zcu s n f < n) ∧ (0 ≤ zdi s n f ∧ zdi s n f < 6) ∧ zfr s n (6 * zcu s n f + zdi s n f) = true ∧ zN (6 * zcu s n f + zdi s n f).toNat (zfr s n) = f := by
  have := zel_in (P := zfr s n) (m := 6 * n) h.1 (by rw [← zFs_e hn]; exact h.2)
  unfold zcu zdi
  generalize zel (zfr s n) (6 * n) f = j at this
  have e : 6 * (j / 6) + j % 6 = j := by omega
  rw [e]
  exact ⟨by omega, by omega, this.2.2.1, this.2.2.2⟩
/-- a side: its face, and where it looks to -/
def zsl (s : Int → Int) (n c d l : Int) : Prop := (0 ≤ c ∧ c < n) ∧ zpp d l ∧ zfr s n (6 * c + d) = true
theorem zso_r (h : zsl s n c d l) : 0 ≤ zso s n c d l ∧ zso s n c d l < 4 * zFs s n ∧ zcu s n (zso s n c d l / 4) = c ∧ zdi s n (zso s n c d l / 4) = d ∧ zlk d (zso s n c d l % 4) = l ∧ zso s n c d l / 4 = zN (6 * c + d).toNat (zfr s n) := by
  obtain ⟨hc, hp, hf⟩ := h
  have hd := hp.1
  have hd' := hp.2.1
  have z := zsd_p hp
  have hj : 0 ≤ 6 * c + d ∧ 6 * c + d < 6 * n := by omega
  have e := zel_of hj hf
  have r := (zN_r (P := zfr s n) (6 * c + d).toNat).1
  have hl := zN_lt' (j := 6 * n) hj.1 hj.2 hf
  rw [← zFs_e (by omega)] at hl
  have e4 : zso s n c d l / 4 = zN (6 * c + d).toNat (zfr s n) := by unfold zso; omega
  have em : zso s n c d l % 4 = zsd d l := by unfold zso; omega
  refine ⟨by unfold zso; omega, by unfold zso; omega, ?_, ?_, ?_, e4⟩
  · rw [e4]
    unfold zcu
    rw [e]
    omega
  · rw [e4]
    unfold zdi
    rw [e]
    omega
  · rw [em]
    exact z.2.2
theorem zsl_of (hn : 0 ≤ n) (h : 0 ≤ k ∧ k < 4 * zFs s n) : zsl s n (zcu s n (k / 4)) (zdi s n (k / 4)) (zlk (zdi s n (k / 4)) (k % 4)) ∧ zso s n (zcu s n (k / 4)) (zdi s n (k / 4)) (zlk (zdi s n (k / 4)) (k % 4)) = k := by
  obtain ⟨h1, h2, h3, h4⟩ := zcd (s := s) (f := k / 4) hn (by omega)
  have p := zlk_p h2 (t := k % 4) (by omega)
  refine ⟨⟨h1, p.1, h3⟩, ?_⟩
  unfold zso
  rw [h4, p.2]
  omega
theorem zac_so (h : zsl s n c d l) : zac s n (zso s n c d l) = zar s n c d l := by
  obtain ⟨_, _, h3, h4, h5, _⟩ := zso_r h
  unfold zac
  rw [h3, h4, h5]
/-! cubes beside, and back -/
def zop (d e : Int) : Prop := ∀ c, zst e c = - zst d c
theorem zop_x (h : 0 ≤ d ∧ d < 6) : zop d (zx d) := fun _ => zx_st h
theorem zk_c : zk s n c d l = zk s n c l d := by
  have e : ∀ q, zat s q c d l = zat s q c l d := fun q => by
    unfold zat
    rw [Int.add_comm (zst d 0), Int.add_comm (zst d 1), Int.add_comm (zst d 2)]
  unfold zk
  rw [show (fun q => !zat s q c d l) = (fun q => !zat s q c l d) from funext fun q => by rw [e]]
theorem zk_y (hn : 0 ≤ n) (h : ¬ zk s n c d l = -1) : (0 ≤ zk s n c d l ∧ zk s n c d l < n) ∧ zat s (zk s n c d l) c d l = true := by
  have hL := zr_le (P := fun q => !zat s q c d l) (L := n) (p := 0) hn
  have he := zr_end (P := fun q => !zat s q c d l) (L := n) (p := 0) hn
  unfold zk at h ⊢
  split at h
  · rename_i q
    rw [if_pos q]
    refine ⟨⟨hL.1, q⟩, ?_⟩
    have := he q
    simpa using this
  · exact absurd rfl h
theorem zk_is (hD : zDs s n) {q : Int} (hq : 0 ≤ q ∧ q < n) (h : zat s q c d l = true) : zk s n c d l = q := by
  by_cases g : zk s n c d l = -1
  · rw [zk_no (by omega)] at g
    rw [g q hq.1 hq.2] at h
    cases h
  · have y := zk_y (by omega) g
    have a := zat_to h
    have b := zat_to y.2
    exact hD _ _ y.1.1 y.1.2 hq.1 hq.2 (by omega) (by omega) (by omega)
theorem zat_cc {q : Int} (h : zat s q c d l = true) : zat s q c l d = true := by
  have a := zat_to h
  exact zat_of (by omega) (by omega) (by omega)
theorem zpp_x (h : zpp d l) : zpp (zx l) (zx d) ∧ zpp d (zx l) ∧ zpp l d := by
  obtain ⟨a, b, c, e, f⟩ := h
  have x := zx_r ⟨a, b⟩
  have y := zx_r ⟨c, e⟩
  refine ⟨⟨y.1, y.2.1, x.1, x.2.1, ?_⟩, ⟨a, b, y.1, y.2.1, ?_⟩, ⟨c, e, a, b, fun q => f q.symm⟩⟩
  · rw [x.2.2.1, y.2.2.1]
    exact fun q => f q.symm
  · rw [y.2.2.1]
    exact f
theorem zar_sl1 (h : zsl s n c d l) (g : zk s n c d l = -1) (g2 : ¬ zk s n c l (-1) = -1) : zsl s n (zk s n c l (-1)) d (zx l) := by
  obtain ⟨hc, hp, hf⟩ := h
  have hn : 0 ≤ n := by omega
  have hd : 0 ≤ d ∧ d < 6 := ⟨hp.1, hp.2.1⟩
  have m0 := zst_n 0
  have m1 := zst_n 1
  have m2 := zst_n 2
  have g' := (zk_no hn).mp g
  obtain ⟨b1, b2⟩ := zk_y hn g2
  generalize zk s n c l (-1) = B at b1 b2
  have b3 := zat_to b2
  refine ⟨b1, (zpp_x hp).2.1, ?_⟩
  rw [zfr_iff hn hd]
  intro q q0 q1
  cases hz : zat s q B d (-1) with
  | false => rfl
  | true =>
    have z := zat_to hz
    have : zat s q c d l = true := zat_of (by omega) (by omega) (by omega)
    rw [g' q q0 q1] at this
    cases this
theorem zar_sl2 (h : zsl s n c d l) (g : ¬ zk s n c d l = -1) : zsl s n (zk s n c d l) (zx l) (zx d) := by
  obtain ⟨hc, hp, hf⟩ := h
  have hn : 0 ≤ n := by omega
  have hd : 0 ≤ d ∧ d < 6 := ⟨hp.1, hp.2.1⟩
  have hl : 0 ≤ l ∧ l < 6 := ⟨hp.2.2.1, hp.2.2.2.1⟩
  have xl := zx_r hl
  have ff := (zfr_iff hn hd).mp hf
  have ol0 := zx_st (c := 0) hl
  have ol1 := zx_st (c := 1) hl
  have ol2 := zx_st (c := 2) hl
  have m0 := zst_n 0
  have m1 := zst_n 1
  have m2 := zst_n 2
  obtain ⟨b1, b2⟩ := zk_y hn g
  generalize zk s n c d l = A at b1 b2
  have b3 := zat_to b2
  refine ⟨b1, (zpp_x hp).1, ?_⟩
  rw [zfr_iff hn ⟨xl.1, xl.2.1⟩]
  intro q q0 q1
  cases hz : zat s q A (zx l) (-1) with
  | false => rfl
  | true =>
    have z := zat_to hz
    have : zat s q c d (-1) = true := zat_of (by omega) (by omega) (by omega)
    rw [ff q q0 q1] at this
    cases this
/-- the side behind is one, and behind that is the first -/
theorem zar_ok (hD : zDs s n) (h : zsl s n c d l) : ∃ c' d' l', zsl s n c' d' l' ∧ zar s n c d l = zso s n c' d' l' ∧ zar s n c' d' l' = zso s n c d l ∧ (c' ≠ c ∨ d' ≠ d) ∧ zbe s n c d l = zbe s n c' d' l' := by
  obtain ⟨hc, hp, hf⟩ := h
  have hn : 0 ≤ n := by omega
  have hd : 0 ≤ d ∧ d < 6 := ⟨hp.1, hp.2.1⟩
  have hl : 0 ≤ l ∧ l < 6 := ⟨hp.2.2.1, hp.2.2.2.1⟩
  obtain ⟨px1, px2, px3⟩ := zpp_x hp
  have xd := zx_r hd
  have xl := zx_r hl
  have od0 := zx_st (c := 0) hd
  have od1 := zx_st (c := 1) hd
  have od2 := zx_st (c := 2) hd
  have ol0 := zx_st (c := 0) hl
  have ol1 := zx_st (c := 1) hl
  have ol2 := zx_st (c := 2) hl
  have m0 := zst_n 0
  have m1 := zst_n 1
  have m2 := zst_n 2
  have ff := (zfr_iff hn hd).mp hf
  have dl : d ≠ l := fun q => hp.2.2.2.2 (by rw [q])
  by_cases g : zk s n c d l = -1
  · have g' := (zk_no hn).mp g
    by_cases g2 : zk s n c l (-1) = -1
    · have g2' := (zk_no hn).mp g2
      refine ⟨c, l, d, ⟨hc, px3, (zfr_iff hn hl).mpr g2'⟩, ?_, ?_, Or.inr (fun q => dl q.symm), ?_⟩
      · unfold zar
        rw [if_pos g, if_pos g2]
      · unfold zar
        rw [zk_c, if_pos g, if_pos ((zk_no hn).mpr ff)]
      · have e1 : zk s n c l d = -1 := by rw [zk_c]; exact g
        have e2 : zk s n c d (-1) = -1 := (zk_no hn).mpr ff
        unfold zbe
        rw [if_pos g, if_pos g2, if_pos e1, if_pos e2]
    · obtain ⟨b1, b2⟩ := zk_y hn g2
      generalize hB : zk s n c l (-1) = B at b1 b2
      have b3 := zat_to b2
      have hne : B ≠ c := by
        intro q
        subst q
        have : zat s B B l (-1) = true := b2
        have q0 := zx_r hl
        have : zst l 0 = 0 ∧ zst l 1 = 0 ∧ zst l 2 = 0 := by omega
        revert this
        refine zd6 (P := fun l => ¬ (zst l 0 = 0 ∧ zst l 1 = 0 ∧ zst l 2 = 0)) hl ?_ ?_ ?_ ?_ ?_ ?_ <;> decide
      have fB : zfr s n (6 * B + d) = true := by
        have := (zar_sl1 ⟨hc, hp, hf⟩ g g2).2.2
        rw [hB] at this
        exact this
      have k1 : zk s n B d (zx l) = -1 := by
        rw [zk_no hn]
        intro q q0 q1
        cases hz : zat s q B d (zx l) with
        | false => rfl
        | true =>
          have z := zat_to hz
          have : zat s q c d (-1) = true := zat_of (by omega) (by omega) (by omega)
          rw [ff q q0 q1] at this
          cases this
      have k2 : zk s n B (zx l) (-1) = c := zk_is hD hc (zat_of (by omega) (by omega) (by omega))
      refine ⟨B, d, zx l, ⟨b1, px2, fB⟩, ?_, ?_, Or.inl hne, ?_⟩
      · unfold zar
        rw [if_pos g, if_neg g2, hB]
      · unfold zar
        rw [if_pos k1, k2, if_neg (by omega), xl.2.2.2.1]
      · unfold zbe
        rw [if_pos g, if_neg g2, if_pos k1, k2, if_neg (by omega)]
  · obtain ⟨b1, b2⟩ := zk_y hn g
    generalize hA : zk s n c d l = A at b1 b2
    have b3 := zat_to b2
    have hne : A ≠ c := by
      intro q
      subst q
      have : zst d 0 + zst l 0 = 0 ∧ zst d 1 + zst l 1 = 0 ∧ zst d 2 + zst l 2 = 0 := by omega
      revert this
      have key : ∀ d, 0 ≤ d ∧ d < 6 → ∀ l, 0 ≤ l ∧ l < 6 → d / 2 ≠ l / 2 → ¬ (zst d 0 + zst l 0 = 0 ∧ zst d 1 + zst l 1 = 0 ∧ zst d 2 + zst l 2 = 0) := by
        intro d hd
        refine zd6 (P := fun d => ∀ l, 0 ≤ l ∧ l < 6 → d / 2 ≠ l / 2 → ¬ (zst d 0 + zst l 0 = 0 ∧ zst d 1 + zst l 1 = 0 ∧ zst d 2 + zst l 2 = 0)) hd ?_ ?_ ?_ ?_ ?_ ?_ <;> (intro l hl; refine zd6 (P := fun l => _ / 2 ≠ l / 2 → ¬ (zst _ 0 + zst l 0 = 0 ∧ zst _ 1 + zst l 1 = 0 ∧ zst _ 2 + zst l 2 = 0)) hl ?_ ?_ ?_ ?_ ?_ ?_ <;> decide)
      exact key d hd l hl hp.2.2.2.2
    have fA : zfr s n (6 * A + zx l) = true := by
      have := (zar_sl2 ⟨hc, hp, hf⟩ g).2.2
      rw [hA] at this
      exact this
    have k1 : zk s n A (zx l) (zx d) = c := zk_is hD hc (zat_of (by omega) (by omega) (by omega))
    refine ⟨A, zx l, zx d, ⟨b1, px1, fA⟩, ?_, ?_, Or.inl hne, ?_⟩
    · unfold zar
      rw [if_neg (by omega), hA]
    · unfold zar
      rw [k1, if_neg (by omega), xd.2.2.2.1, xl.2.2.2.1]
    · unfold zbe
      rw [if_neg (by omega), k1, if_neg (by omega)]
theorem zac_ok (hn : 0 ≤ n) (hD : zDs s n) (h : 0 ≤ k ∧ k < 4 * zFs s n) : (0 ≤ zac s n k ∧ zac s n k < 4 * zFs s n) ∧ zac s n (zac s n k) = k ∧ zac s n k / 4 ≠ k / 4 := by
  obtain ⟨h1, h2⟩ := zsl_of hn h
  obtain ⟨c', d', l', g1, g2, g3, g4, _⟩ := zar_ok hD h1
  have r := zso_r g1
  have e : zac s n k = zso s n c' d' l' := g2
  rw [e]
  refine ⟨⟨r.1, r.2.1⟩, ?_, ?_⟩
  · rw [zac_so g1, g3, h2]
  · intro q
    rcases g4 with g4 | g4
    · exact g4 (by rw [← r.2.2.1, q])
    · exact g4 (by rw [← r.2.2.2.1, q])
end ZA
/-! EDGES -/
/-- what the plane's part takes of a skin -/
def zSK (F : Int) (ac ed es : Int → Int) : Prop := (0 ≤ F ∧ F ≤ 30) ∧ (∀ k, 0 ≤ k → k < 4 * F → (0 ≤ ac k ∧ ac k < 4 * F) ∧ ac (ac k) = k ∧ ac k / 4 ≠ k / 4 ∧ (0 ≤ ed k ∧ ed k < 2 * F) ∧ ed (ac k) = ed k ∧ es (ed k) = min k (ac k)) ∧ (∀ e, 0 ≤ e → e < 2 * F → (0 ≤ es e ∧ es e < 4 * F) ∧ ed (es e) = e ∧ es e < ac (es e))
def zld (ac : Int → Int) (i : Int) : Bool := decide (i < ac i)
def zed (ac : Int → Int) (k : Int) : Int := zN (min k (ac k)).toNat (zld ac)
def zes (F : Int) (ac : Int → Int) (e : Int) : Int := zel (zld ac) (4 * F) e
theorem zld_half {ac : Int → Int} (N : Nat) (h : ∀ k : Int, 0 ≤ k → k < N → (0 ≤ ac k ∧ ac k < N) ∧ ac (ac k) = k ∧ ac k ≠ k) : 2 * zN N (zld ac) = N := by
  have a := zN_not (P := zld ac) N
  have b := zN_inj (P := fun i => !zld ac i) N N (g := ac) (fun i i0 i1 => (h i i0 i1).1) (fun i j i0 i1 j0 j1 e => by rw [← (h i i0 i1).2.1, ← (h j j0 j1).2.1, e])
  have c := zN_inj (P := zld ac) N N (g := ac) (fun i i0 i1 => (h i i0 i1).1) (fun i j i0 i1 j0 j1 e => by rw [← (h i i0 i1).2.1, ← (h j j0 j1).2.1, e])
  have fl : ∀ i : Int, 0 ≤ i → i < N → zld ac (ac i) = !zld ac i := fun i i0 i1 => by
    obtain ⟨_, q2, q3⟩ := h i i0 i1
    unfold zld
    rw [q2]
    by_cases q : i < ac i
    · rw [decide_eq_true q, decide_eq_false (by omega)]
      rfl
    · rw [decide_eq_false q, decide_eq_true (by omega)]
      rfl
  rw [zN_eq N (Q := zld ac) (fun i i0 i1 => by rw [fl i i0 i1]; cases zld ac i <;> rfl)] at b
  rw [zN_eq N (P := fun i => zld ac (ac i)) (Q := fun i => !zld ac i) (fun i i0 i1 => fl i i0 i1)] at c
  omega
theorem zSK_of {F : Int} {ac : Int → Int} (hF : 0 ≤ F ∧ F ≤ 30) (h : ∀ k, 0 ≤ k → k < 4 * F → (0 ≤ ac k ∧ ac k < 4 * F) ∧ ac (ac k) = k ∧ ac k / 4 ≠ k / 4) : zSK F ac (zed ac) (zes F ac) := by
  have hN : (((4 * F).toNat : Nat) : Int) = 4 * F := by omega
  have hh := zld_half (ac := ac) (4 * F).toNat (fun k a b => by
    rw [hN] at b ⊢
    obtain ⟨q1, q2, q3⟩ := h k a b
    exact ⟨q1, q2, fun q => q3 (by rw [q])⟩)
  rw [hN] at hh
  have ld : ∀ k, 0 ≤ k → k < 4 * F → zld ac (min k (ac k)) = true := fun k a b => by
    obtain ⟨q1, q2, q3⟩ := h k a b
    have : ac k ≠ k := fun q => q3 (by rw [q])
    unfold zld
    rcases (by omega : (k < ac k ∧ min k (ac k) = k) ∨ (ac k < k ∧ min k (ac k) = ac k)) with q | q
    · rw [q.2]
      exact decide_eq_true q.1
    · rw [q.2, q2]
      exact decide_eq_true q.1
  refine ⟨hF, fun k a b => ?_, fun e a b => ?_⟩
  · obtain ⟨q1, q2, q3⟩ := h k a b
    have l := ld k a b
    have m : 0 ≤ min k (ac k) ∧ min k (ac k) < 4 * F := by omega
    refine ⟨q1, q2, q3, ⟨(zN_r _).1, ?_⟩, ?_, ?_⟩
    · have := zN_lt' (j := 4 * F) m.1 m.2 l
      unfold zed
      omega
    · unfold zed
      rw [q2, Int.min_comm]
    · exact zel_of m l
  · have g := zel_in (P := zld ac) (m := 4 * F) a (by omega)
    have g3 : zes F ac e < ac (zes F ac e) := of_decide_eq_true g.2.2.1
    refine ⟨⟨g.1, g.2.1⟩, ?_, g3⟩
    unfold zed
    rw [show min (zes F ac e) (ac (zes F ac e)) = zes F ac e by omega]
    exact g.2.2.2

/-! GLUINGS: what the reference answers -/
abbrev zRN (p : zP) : Int := 2 * pF p + 2
noncomputable def zgL (p : zP) : List (Int → Int) := zGl (zRN p) (zrA p) (zRN p + 1).toNat (fun _ => -1) 0 []
def zlat : List (Int → Int) → Nat → Int → Int
  | [], _ => fun _ => -1
  | u :: _, 0 => u
  | _ :: L, n + 1 => zlat L n
noncomputable def zls (U : Int → Int → Prop) (k : Int) : Bool := zpd (∀ j, 0 ≤ j → j < k → ¬ zEq U j k)
def zmeas (N : Int) (P : Int → Bool) (W : Int → Int) (b : Int) : Int := if b = 0 then zN N.toNat P else if b = 1 then zN N.toNat (fun k => P k && decide (W k < 4)) else zmi 4 N.toNat (fun k => if P k = true then W k else 4)
noncomputable def zms (N : Int) (A u : Int → Int) (b : Int) : Int := zmeas N (zls (zU N u)) (zwt N A (zU N u)) b
def zfi (Q : (Int → Int) → Bool) : List (Int → Int) → Int → Int
  | [], _ => -2
  | u :: L, c => if Q u = true then c else zfi Q L (c + 1)
noncomputable def zow (p : zP) (u : Int → Int) : Bool := zpd (∀ k, 0 ≤ k → k < zRN p → u k = zrP p k)
noncomputable def zaG (p : zP) : Int := if zpd (zWo p) = true then (if 22 < zRN p then -3 else ((zgL p).length : Int)) else -1
noncomputable def zaGd (p : zP) (a b : Int) : Int := if zpd (zWo p) = true ∧ 0 ≤ a ∧ 0 ≤ b ∧ b < zRN p then (if 22 < zRN p then -3 else if a < ((zgL p).length : Int) then zlat (zgL p) a.toNat b else -1) else -1
noncomputable def zaL (p : zP) (a b : Int) : Int := if zpd (zWo p) = true ∧ 0 ≤ a ∧ 0 ≤ b ∧ b ≤ 2 then (if 22 < zRN p then -3 else if a < ((zgL p).length : Int) then zms (zRN p) (zrA p) (zlat (zgL p) a.toNat) b else -1) else -1
noncomputable def zaI (p : zP) : Int := if zpd (zWo p) = true then (if 22 < zRN p then -3 else zfi (zow p) (zgL p) 0) else -1
/-- what the gluing calls of the reference leave -/
def zfQ (μ m : z_Mem) : Prop := ∀ x i, ¬ (x = 113 ∧ (i = 41 ∨ i = 45 ∨ i = 46)) → (x < 130 ∨ 132 < x) → (x < 140 ∨ 144 < x) → m x i = μ x i
def z64 (p : zP) : Prop := zWo p → zRN p ≤ 22 → (zgL p).length ≤ 64
section RF
variable {N a b c k : Int} {U : Int → Int → Prop} {A B S u : Int → Int} {P P' : Int → Bool} {W W' : Int → Int} {L : List (Int → Int)} {p : zP} {μ : z_Mem} {d : Nat} {K : Int → z_Mem → Prop} {Kn : z_Mem → Prop}
theorem zsp : ∀ (L : List (Int → Int)) (n : Nat), n < L.length → ∃ pre post, L = pre ++ zlat L n :: post ∧ pre.length = n
  | [], n, h => absurd h (Nat.not_lt_zero n)
  | u :: L, 0, _ => ⟨[], L, rfl, rfl⟩
  | u :: L, n + 1, h => by
    obtain ⟨pre, post, e1, e2⟩ := zsp L n (Nat.lt_of_succ_lt_succ h)
    refine ⟨u :: pre, post, ?_, by rw [List.length_cons, e2]⟩
    show u :: L = u :: (pre ++ zlat L n :: post)
    rw [← e1]
theorem zlat_at : ∀ (pre : List (Int → Int)) {u : Int → Int} {post : List (Int → Int)}, zlat (pre ++ u :: post) pre.length = u
  | [], _, _ => rfl
  | _ :: pre, _, _ => zlat_at pre
theorem zlat_mem : ∀ (L : List (Int → Int)) (n : Nat), n < L.length → zlat L n ∈ L := fun L n h => by
  obtain ⟨pre, post, e1, _⟩ := zsp L n h
  have : zlat L n ∈ pre ++ zlat L n :: post := List.mem_append.mpr (Or.inr List.mem_cons_self)
  rw [← e1] at this
  exact this
theorem zIv_0 (hn : 0 < N) (h2 : N % 2 = 0) : zIv N (fun _ => -1) 0 [] :=
  ⟨Int.le_refl _, ⟨by omega, by omega, fun _ _ _ => rfl⟩, fun t t0 t1 => by omega, fun t t0 t1 => by show -1 ≤ -1 ∧ -1 < N; omega, fun t t0 t1 h => by
    have h : (0 : Int) ≤ -1 := h
    omega, fun t t0 t1 => by show (-1 : Int) < 0; omega, fun x y x0 xy yw => by
    have : y < -1 := yw
    omega⟩
theorem zgL_el (hw : zWo p) : ∀ u, u ∈ zgL p → zFu (zRN p) (zrA p) u := fun u h => (zGl_el _ _ _ _ (zIv_0 (by have := hw.1; show 0 < 2 * pF p + 2; omega) (by show (2 * pF p + 2) % 2 = 0; omega)) u h).1
theorem zFu_r (h : zFu N A u) {t : Int} (t0 : 0 ≤ t) (t1 : t < N) : 0 ≤ u t ∧ u t < N := ⟨h.1.2.2.1 t t0 t1, (h.1.2.2.2.1 t t0 t1).2⟩
theorem zfQ_c (hc : zMn' μ p) (hv : zV p) {m : z_Mem} (h : zfQ μ m) : zMn' m p := zMn_fr hc hv.1 (fun x i w => h x i (by omega) (by omega) (by omega))
theorem zfQ_R {m : z_Mem} (h : zfR μ m) : zfQ μ m := fun x i a b c => h x i (by omega) b (by omega) (by omega)
theorem zfQ_t {m m2 : z_Mem} (h : zfQ μ m) (h2 : zfQ m m2) : zfQ μ m2 := fun x i a b c => by rw [h2 x i a b c]; exact h x i a b c
theorem e12_laysGluings (hv : zV p) (hc : zMn' μ p) (h64 : z64 p) (hn : ¬ zWo p → ∀ m, zfQ μ m → K (-1) m) (h3 : zWo p → 22 < zRN p → ∀ m, zfQ μ m → zRim m p → K (-3) m) (h1 : zWo p → zRN p ≤ 22 → 0 ≤ a → a < ((zgL p).length : Int) → ∀ m, zfQ μ m → zRim m p → zLd (zRN p) (zrA p) (zlat (zgL p) a.toNat) m → K (a + 1) m) (h0 : zWo p → zRN p ≤ 22 → ¬ (0 ≤ a ∧ a < ((zgL p).length : Int)) → ∀ m, zfQ μ m → zRim m p → K ((zgL p).length : Int) m) : z_ci m_X12_laysGluings [(2, 113), (0, a)] μ (d + 30) K := by
  have F0 : 0 ≤ pF p ∧ pF p ≤ 30 := (zV_sk hv).1
  refine V_X12_laysGluings (e12_laysRim hv hc (fun hw m1 f1 b1 => zy1 ?_) (fun hw m1 f1 => zy0 (hn hw m1 (zfQ_R f1))))
  rw [b1.1]
  refine ⟨fun q => ?_, fun q => h3 hw q m1 (zfQ_R f1) b1⟩
  have hF := hw.1
  have l64 := h64 hw q
  have key : ∀ k, 0 ≤ k → k ≤ zRN p → ∀ m : z_Mem, (∀ o i, o ≠ 142 → m o i = m1 o i) → (∀ t, 0 ≤ t → t < k → m 142 t = -1) → z_ri m_X12_laysGluings 23 [some (2, 113), some (0, a), some (0, k)] m (d + 30) K := by
    refine z_up (fun k k0 k1 ih m hf hm => V_X12_laysGluings_23 ?_)
    rw [hf 113 41 (by decide), b1.1]
    refine ⟨fun z => ?_, fun z => ⟨(by first | omega | exact ⟨by omega, by omega⟩), (by first | omega | exact ⟨by omega, by omega⟩), ih z _ (fun o i x => by rw [z_st_ne x]; exact hf o i x) (fun t t0 t1 => ?_)⟩⟩
    · obtain rfl : k = zRN p := by
        show k = 2 * pF p + 2
        have : k ≤ 2 * pF p + 2 := k1
        omega
      generalize hm0 : z_st (z_st m 113 45 0) 113 46 a = m0
      have f0 : ∀ o i, o ≠ 142 → ¬ (o = 113 ∧ (i = 45 ∨ i = 46)) → m0 o i = m1 o i := fun o i x y => by rw [← hm0, z_st_nx (by omega), z_st_nx (by omega)]; exact hf o i x
      have R0 : ∀ m', zfG m0 m' → zRim m' p ∧ zfQ μ m' := fun m' g => by
        refine ⟨⟨?_, fun t t0 t1 => ?_⟩, fun x i y1 y2 y3 => ?_⟩
        · rw [g 113 41 (by decide) (by decide) (by decide) (by decide), f0 113 41 (by decide) (by decide)]
          exact b1.1
        · rw [g 140 t (by decide) (by decide) (by decide) (by omega), g 141 t (by decide) (by decide) (by decide) (by omega), f0 140 t (by decide) (by omega), f0 141 t (by decide) (by omega)]
          exact b1.2 t t0 t1
        · rw [g x i (by omega) (by omega) (by omega) (by omega), f0 x i (by omega) (by omega)]
          exact f1 x i (by omega) y2 (by omega) (by omega)
      have rN : ((2 * pF p + 2 + 1).toNat : Int) = 2 * pF p + 2 - 0 + 1 := by omega
      have G := e12_glue (N := zRN p) (g := a) (A := zrA p) (μ0 := m0) ⟨by show 0 < 2 * pF p + 2; omega, q⟩ (by rw [f0 113 41 (by decide) (by decide)]; exact b1.1) (by rw [← hm0, z_st_eq]) (fun t t0 t1 => ?_) (zRN p + 1).toNat (fun _ => -1) 0 [] 0 m0 (d + 26 - (zRN p + 1).toNat) (fun _ m3 => K (m3 113 45) m3) rN (zIv_0 (by show 0 < 2 * pF p + 2; omega) (by show (2 * pF p + 2) % 2 = 0; omega)) (fun _ _ _ _ _ _ => rfl) (fun t t0 t1 => ?_) ?_ (Int.le_refl _) ?_ ?_ ?_
      · have q' : 2 * pF p + 2 ≤ 22 := q
        have ed : d + 26 - (zRN p + 1).toNat + (zRN p + 1).toNat + 3 = d + 29 := by
          have : (zRN p + 1).toNat = (2 * pF p + 2 + 1).toNat := rfl
          omega
        rw [ed] at G
        exact V_X12_glues G
      · rw [f0 141 t (by decide) (by omega), (b1.2 t t0 t1).2]
        have := zrA_r hv hw (k := t) ⟨t0, t1⟩
        refine ⟨rfl, by omega, by omega⟩
      · rw [← hm0, z_st_ne (by decide), z_st_ne (by decide)]
        exact hm t t0 t1
      · rw [← hm0, z_st_ni (by decide), z_st_eq]
      · show 0 + ((zgL p).length : Int) ≤ 1000000
        omega
      · intro pre u post e1 e2 m' g l c45
        obtain ⟨R1, R2⟩ := R0 m' g
        have e1 : zgL p = pre ++ u :: post := e1
        have len : (zgL p).length = pre.length + (post.length + 1) := by rw [e1, List.length_append, List.length_cons]
        have eu : zlat (zgL p) a.toNat = u := by
          rw [show a.toNat = pre.length by omega, e1]
          exact zlat_at pre
        show K (m' 113 45) m'
        rw [c45]
        exact h1 hw q (by omega) (by omega) m' R2 R1 (by rw [eu]; exact l)
      · intro nin m' g _ c45
        obtain ⟨R1, R2⟩ := R0 m' g
        have nin : ¬ (0 ≤ a ∧ a < 0 + ((zgL p).length : Int)) := nin
        have c45 : m' 113 45 = 0 + ((zgL p).length : Int) := c45
        show K (m' 113 45) m'
        rw [c45, Int.zero_add]
        exact h0 hw q (by omega) m' R2 R1
    · by_cases x : t = k
      · rw [x, z_st_eq]
      · rw [z_st_ni x]
        exact hm t t0 (by omega)
  exact key 0 (by omega) (by show 0 ≤ 2 * pF p + 2; omega) m1 (fun _ _ _ => rfl) (fun t t0 t1 => by omega)
theorem zaG_n (hw : ¬ zWo p) : zaG p = -1 ∧ zaI p = -1 ∧ zaGd p a b = -1 ∧ zaL p a b = -1 := by
  unfold zaG zaI zaGd zaL
  rw [zpd_f hw, if_neg (by decide), if_neg (by decide), if_neg (fun x => by cases x.1), if_neg (fun x => by cases x.1)]
  exact ⟨rfl, rfl, rfl, rfl⟩
theorem zaG_w (hw : zWo p) : zaG p = (if 22 < zRN p then -3 else ((zgL p).length : Int)) ∧ zaI p = (if 22 < zRN p then -3 else zfi (zow p) (zgL p) 0) := by
  unfold zaG zaI
  rw [if_pos (zpd_t hw), if_pos (zpd_t hw)]
  exact ⟨rfl, rfl⟩
theorem e12_gluings (hv : zV p) (hc : zMn' μ p) (h64 : z64 p) (hk : ∀ m, zfQ μ m → K (zaG p) m) : z_ci m_X12_gluings [(2, 113)] μ (d + 31) K := by
  refine V_X12_gluings (e12_laysGluings hv hc h64 (fun hw m f => ?_) (fun hw q m f _ => ?_) (fun hw q q1 => absurd q1 (by decide)) (fun hw q _ m f _ => ?_))
  · have := hk m f
    rw [(zaG_n (a := 0) (b := 0) hw).1] at this
    exact this
  · have := hk m f
    rw [(zaG_w hw).1, if_pos q] at this
    exact this
  · have := hk m f
    rw [(zaG_w hw).1, if_neg (by omega)] at this
    exact this
theorem zbm (x : Int) : Int.bmod x 4294967296 = if x % 4294967296 < 2147483648 then x % 4294967296 else x % 4294967296 - 4294967296 := rfl
theorem e12_laysOne (hv : zV p) (hc : zMn' μ p) (h64 : z64 p) (ha : z_I a) (hneg : a < 0 → K (-1) μ) (hn : ¬ zWo p → 0 ≤ a → ∀ m, zfQ μ m → K (-1) m) (h3 : zWo p → 0 ≤ a → 22 < zRN p → ∀ m, zfQ μ m → K (-3) m) (h1 : zWo p → zRN p ≤ 22 → 0 ≤ a → a < ((zgL p).length : Int) → ∀ m, zfQ μ m → zRim m p → zLd (zRN p) (zrA p) (zlat (zgL p) a.toNat) m → K 1 m) (h0 : zWo p → zRN p ≤ 22 → 0 ≤ a → ¬ (a < ((zgL p).length : Int)) → ∀ m, zfQ μ m → K (-1) m) : z_ci m_X12_laysOne [(2, 113), (0, a)] μ (d + 31) K := by
  have ha' : -2147483648 ≤ a ∧ a ≤ 2147483647 := ha
  refine V_X12_laysOne ⟨fun a0 => e12_laysGluings hv hc h64 (fun hw m f => ?_) (fun hw q m f _ => ?_) (fun hw q q1 q2 m f r l => ?_) (fun hw q q1 m f _ => ?_), hneg⟩
  · exact ⟨fun x => absurd x (by decide), fun _ => hn hw a0 m f⟩
  · exact ⟨fun x => absurd x (by decide), fun _ => h3 hw a0 q m f⟩
  · have l64 := h64 hw q
    have e : Int.bmod (a + 1) 4294967296 = a + 1 := by
      rw [zbm]
      split <;> omega
    exact ⟨fun _ => ⟨fun x => absurd e.symm x, fun _ => h1 hw q a0 q2 m f r l⟩, fun x => by omega⟩
  · have l64 := h64 hw q
    have ne : ¬ ((zgL p).length : Int) = Int.bmod (a + 1) 4294967296 := by
      rw [zbm]
      split <;> omega
    exact ⟨fun _ => ⟨fun _ => h0 hw q a0 (by omega) m f, fun x => absurd x ne⟩, fun x => by omega⟩
theorem e12_glued (hv : zV p) (hc : zMn' μ p) (h64 : z64 p) (ha : z_I a) (hb : z_I b) (hk : ∀ m, zfQ μ m → K (zaGd p a b) m) : z_ci m_X12_glued [(2, 113), (0, a), (0, b)] μ (d + 32) K := by
  have F0 : 0 ≤ pF p ∧ pF p ≤ 30 := (zV_sk hv).1
  have hb' : -2147483648 ≤ b ∧ b ≤ 2147483647 := hb
  have un : zaGd p a b = if zpd (zWo p) = true ∧ 0 ≤ a ∧ 0 ≤ b ∧ b < zRN p then (if 22 < zRN p then -3 else if a < ((zgL p).length : Int) then zlat (zgL p) a.toNat b else -1) else -1 := rfl
  refine V_X12_glued (e12_laysRim hv hc (fun hw m1 f1 b1 => zy1' ?_) (fun hw m1 f1 => zy0' ?_))
  · have c1 := zfQ_c hc hv (zfQ_R f1)
    rw [b1.1]
    refine ⟨(by first | omega | exact ⟨by omega, by omega⟩), e_in (fun q => zy0' ?_) (fun q => zy1' ⟨fun a0 => e12_laysOne hv c1 h64 ha (fun x => by omega) (fun x => absurd hw x) (fun _ _ q3 m f => ?_) (fun _ q3 _ q4 m f _ l => ?_) (fun _ q3 _ q4 m f => ?_), fun a0 => ?_⟩)⟩
    · have := hk m1 (zfQ_R f1)
      rw [un, if_neg (by rintro ⟨_, _, x, y⟩; have : b < 2 * pF p + 2 := y; omega)] at this
      exact this
    · refine ⟨fun _ => ?_, fun x => absurd x (by decide)⟩
      have := hk m (zfQ_t (zfQ_R f1) f)
      rw [un, if_pos ⟨zpd_t hw, a0, q.1, by show b < 2 * pF p + 2; omega⟩, if_pos q3] at this
      exact this
    · have q3' : 2 * pF p + 2 ≤ 22 := q3
      have := hk m (zfQ_t (zfQ_R f1) f)
      rw [un, if_pos ⟨zpd_t hw, a0, q.1, by show b < 2 * pF p + 2; omega⟩, if_neg (by omega), if_pos q4, ← l.1 b q.1 (by show b < 2 * pF p + 2; omega)] at this
      exact ⟨fun x => absurd rfl x, fun _ => ⟨(by first | omega | exact ⟨by omega, by omega⟩), this⟩⟩
    · refine ⟨fun _ => ?_, fun x => absurd x (by decide)⟩
      have := hk m (zfQ_t (zfQ_R f1) f)
      rw [un, if_pos ⟨zpd_t hw, a0, q.1, by show b < 2 * pF p + 2; omega⟩, if_neg (by omega), if_neg q4] at this
      exact this
    · have := hk m1 (zfQ_R f1)
      rw [un, if_neg (by omega)] at this
      exact this
  · have := hk m1 (zfQ_R f1)
    rw [(zaG_n hw).2.2.1] at this
    exact this
theorem zPf_ls (hP : zPf N U B S) (hk : 0 ≤ k ∧ k < N) : B k = k ↔ zls U k = true := by
  obtain ⟨p1, p2, p3, p4, p5⟩ := hP.2 k hk.1 hk.2
  unfold zls
  rw [zpd_i]
  constructor
  · intro e j j0 j1 q
    have := (hP.1 j k j0 (by omega) hk.1 hk.2).mpr q
    have := (hP.2 j j0 (by omega)).2.2.2.1.2
    have := p2 e
    omega
  · intro e
    have sk : S (S k) = S k := (hP.2 (S k) p4.1 (by omega)).2.1 p5
    have := (hP.1 (S k) k p4.1 (by omega) hk.1 hk.2).mp sk
    rcases (by omega : S k < k ∨ S k = k) with w | w
    · exact absurd this (e (S k) p4.1 w)
    · rw [w] at p5
      exact p5
theorem zmi_le4 : ∀ n : Nat, zmi 4 n W ≤ 4
  | 0 => Int.le_refl _
  | n + 1 => by
    have := zmi_le4 n
    show min (zmi 4 n W) (W n) ≤ 4
    omega
theorem zmi_cg (c : Int) : ∀ n : Nat, (∀ i : Int, 0 ≤ i → i < n → W i = W' i) → zmi c n W = zmi c n W'
  | 0, _ => rfl
  | n + 1, h => by
    show min (zmi c n W) (W n) = min (zmi c n W') (W' n)
    rw [zmi_cg c n (fun i i0 i1 => h i i0 (by omega)), h n (by omega) (by omega)]
theorem zmeas_cg (hP : ∀ k, 0 ≤ k → k < N → P k = P' k) (hW : ∀ k, 0 ≤ k → k < N → P k = true → W k = W' k) : zmeas N P W b = zmeas N P' W' b := by
  unfold zmeas
  rw [zN_eq (Q := P') N.toNat (fun i i0 i1 => hP i i0 (by omega)), zN_eq (P := fun k => P k && decide (W k < 4)) (Q := fun k => P' k && decide (W' k < 4)) N.toNat (fun i i0 i1 => ?_), zmi_cg (W := fun k => if P k = true then W k else 4) (W' := fun k => if P' k = true then W' k else 4) 4 N.toNat (fun i i0 i1 => ?_)]
  · show (if P i = true then W i else 4) = (if P' i = true then W' i else 4)
    rw [← hP i i0 (by omega)]
    by_cases z : P i = true
    · rw [if_pos z, if_pos z, hW i i0 (by omega) z]
    · rw [if_neg z, if_neg z]
  · show (P i && decide (W i < 4)) = (P' i && decide (W' i < 4))
    rw [← hP i i0 (by omega)]
    cases hz : P i with
    | false => rfl
    | true => rw [hW i i0 (by omega) hz]
theorem e12_lacks (hv : zV p) (hc : zMn' μ p) (h64 : z64 p) (ha : z_I a) (hk : ∀ m, zfQ μ m → K (zaL p a b) m) : z_ci m_X12_lacks [(2, 113), (0, a), (0, b)] μ (d + 32) K := by
  have F0 : 0 ≤ pF p ∧ pF p ≤ 30 := (zV_sk hv).1
  have un : zaL p a b = if zpd (zWo p) = true ∧ 0 ≤ a ∧ 0 ≤ b ∧ b ≤ 2 then (if 22 < zRN p then -3 else if a < ((zgL p).length : Int) then zms (zRN p) (zrA p) (zlat (zgL p) a.toNat) b else -1) else -1 := rfl
  refine V_X12_lacks (e_in (fun q => zy0 ?_) (fun q => zy1 (e12_laysOne hv hc h64 ha (fun x => ?_) (fun hw a0 m f => ?_) (fun hw a0 q3 m f => ?_) (fun hw q3 a0 q4 m f r l => ⟨fun _ => ?_, fun z => absurd rfl z⟩) (fun hw q3 a0 q4 m f => ?_))))
  · have := hk μ (fun _ _ _ _ _ => rfl)
    rw [un, if_neg (by omega)] at this
    exact this
  · have := hk μ (fun _ _ _ _ _ => rfl)
    rw [un, if_neg (by omega)] at this
    exact ⟨fun z => absurd z (by decide), fun _ => this⟩
  · have := hk m f
    rw [(zaG_n hw).2.2.2] at this
    exact ⟨fun z => absurd z (by decide), fun _ => this⟩
  · have := hk m f
    rw [un, if_pos ⟨zpd_t hw, a0, q.1, q.2⟩, if_pos q3] at this
    exact ⟨fun z => absurd z (by decide), fun _ => this⟩
  · have fin := hk m f
    rw [un, if_pos ⟨zpd_t hw, a0, q.1, q.2⟩, if_neg (by omega), if_pos q4] at fin
    obtain ⟨l1, S, l2, l3⟩ := l
    have q3' : 2 * pF p + 2 ≤ 22 := q3
    have hA : ∀ j, 0 ≤ j → j < 2 * pF p + 2 → 0 ≤ zrA p j ∧ zrA p j ≤ 120 := fun j j0 j1 => by
      have := zrA_r hv hw (k := j) ⟨j0, j1⟩
      omega
    have eq : zms (zRN p) (zrA p) (zlat (zgL p) a.toNat) b = zmeas (zRN p) (fun k => decide (m 143 k = k)) (m 144) b := by
      refine (zmeas_cg (fun k k0 k1 => ?_) (fun k k0 k1 z => ?_)).symm
      · have := zPf_ls l2 ⟨k0, k1⟩
        by_cases z : m 143 k = k
        · rw [decide_eq_true z, this.mp z]
        · rw [decide_eq_false z]
          cases hz : zls (zU (zRN p) (zlat (zgL p) a.toNat)) k with
          | false => rfl
          | true => exact absurd (this.mpr hz) z
      · have z := of_decide_eq_true z
        rw [l3 k k0 k1, zwt_lb l2.1 ⟨k0, k1⟩, (l2.2 k k0 k1).2.1 z]
    rw [eq] at fin
    have sr : ∀ k, 0 ≤ k → k < 2 * pF p + 2 → 0 ≤ m 144 k ∧ m 144 k ≤ 3000 := fun k k0 k1 => by
      rw [l3 k k0 k1]
      have := zsm_r (N := zRN p) (S := S) hA k (zRN p).toNat (by show (((2 * pF p + 2).toNat : Nat) : Int) ≤ 2 * pF p + 2; omega)
      have e : (zRN p).toNat = (2 * pF p + 2).toNat := rfl
      omega
    have key : ∀ (j i : Nat), (i : Int) + j = 2 * pF p + 2 → z_ri m_X12_lacks 39 [some (2, 113), none, some (0, b), none, some (0, zN i (fun k => decide (m 143 k = k))), some (0, zN i (fun k => decide (m 143 k = k) && decide (m 144 k < 4))), some (0, zmi 4 i (fun k => if decide (m 143 k = k) = true then m 144 k else 4)), some (0, (i : Int))] m (d + 32) K := by
      intro j
      induction j with
      | zero =>
        intro i hi
        refine V_X12_lacks_39 ?_
        rw [r.1]
        have en : (zRN p).toNat = i := by
          show (2 * pF p + 2).toNat = i
          omega
        unfold zmeas at fin
        rw [en] at fin
        refine ⟨fun _ => ⟨fun b0 => ⟨fun b1 => ?_, fun b1 => ?_⟩, fun b0 => ?_⟩, fun z => by omega⟩
        · rw [if_neg b0, if_neg b1] at fin
          exact fin
        · rw [if_neg b0, if_pos b1] at fin
          exact fin
        · rw [if_pos b0] at fin
          exact fin
      | succ j ih =>
        intro i hi
        have nx := ih (i + 1) (by omega)
        have n1 := (zN_r (P := fun k => decide (m 143 k = k)) i).2
        have n1' := (zN_r (P := fun k => decide (m 143 k = k)) i).1
        have n2 := (zN_r (P := fun k => decide (m 143 k = k) && decide (m 144 k < 4)) i).2
        have n2' := (zN_r (P := fun k => decide (m 143 k = k) && decide (m 144 k < 4)) i).1
        have mi := zmi_le4 (W := fun k => if decide (m 143 k = k) = true then m 144 k else 4) i
        have si := sr i (by omega) (by omega)
        have em : zmi 4 (i + 1) (fun k => if decide (m 143 k = k) = true then m 144 k else 4) = min (zmi 4 i (fun k => if decide (m 143 k = k) = true then m 144 k else 4)) (if decide (m 143 i = i) = true then m 144 i else 4) := rfl
        rw [zN_s, zN_s, em] at nx
        refine V_X12_lacks_39 ?_
        rw [r.1]
        refine ⟨fun z => by omega, fun z => ⟨(by first | omega | exact ⟨by omega, by omega⟩), fun z2 => ⟨(by first | omega | exact ⟨by omega, by omega⟩), (by first | omega | exact ⟨by omega, by omega⟩), fun z3 => ?_, fun z3 => ?_⟩, fun z2 => ⟨(by first | omega | exact ⟨by omega, by omega⟩), ?_⟩⟩⟩
        · rw [decide_eq_true z2, decide_eq_false (by omega), if_pos rfl] at nx
          exact V_X12_truth ⟨fun _ => ⟨(by first | omega | exact ⟨by omega, by omega⟩), (by first | omega | exact ⟨by omega, by omega⟩), (by first | omega | exact ⟨by omega, by omega⟩), nx⟩, fun x => absurd rfl x⟩
        · rw [decide_eq_true z2, decide_eq_true z3, if_pos rfl] at nx
          exact V_X12_truth ⟨fun x => absurd x (by decide), fun _ => ⟨(by first | omega | exact ⟨by omega, by omega⟩), (by first | omega | exact ⟨by omega, by omega⟩), (by first | omega | exact ⟨by omega, by omega⟩), nx⟩⟩
        · rw [decide_eq_false z2, if_neg (by decide)] at nx
          have e1 : zi false = 0 := rfl
          have e2 : zi (false && decide (m 144 i < 4)) = 0 := rfl
          rw [e1, e2, Int.add_zero, Int.add_zero, show min (zmi 4 i (fun k => if decide (m 143 k = k) = true then m 144 k else 4)) 4 = zmi 4 i (fun k => if decide (m 143 k = k) = true then m 144 k else 4) by omega] at nx
          exact nx
    exact key (2 * pF p + 2).toNat 0 (by omega)
  · have := hk m f
    rw [un, if_pos ⟨zpd_t hw, a0, q.1, q.2⟩, if_neg (by omega), if_neg q4] at this
    exact ⟨fun z => absurd z (by decide), fun _ => this⟩
end RF

/-! VERTICES: orbits of a way round -/
noncomputable def zpd (P : Prop) : Bool := @decide P (Classical.propDecidable P)
theorem zpd_t {P : Prop} (h : P) : zpd P = true := by
  unfold zpd
  exact @decide_eq_true P (Classical.propDecidable P) h
theorem zpd_f {P : Prop} (h : ¬ P) : zpd P = false := by
  unfold zpd
  exact @decide_eq_false P (Classical.propDecidable P) h
theorem zpd_i {P : Prop} : zpd P = true ↔ P := by
  constructor
  · intro h
    by_cases q : P
    · exact q
    · rw [zpd_f q] at h
      cases h
  · exact zpd_t
/-- p goes round within 0 .. N - 1, q goes back -/
def zPm (p q : Int → Int) (N : Int) : Prop := ∀ c, 0 ≤ c → c < N → (0 ≤ p c ∧ p c < N) ∧ (0 ≤ q c ∧ q c < N) ∧ q (p c) = c ∧ p (q c) = c
def zOr (p q : Int → Int) (N a b : Int) : Prop := ∀ P : Int → Prop, P a → (∀ c, 0 ≤ c → c < N → P c → P (p c) ∧ P (q c)) → P b
section OA
variable {p q : Int → Int} {N a b c : Int}
theorem zOr_r : zOr p q N a a := fun _ h _ => h
theorem zOr_tr (h : zOr p q N a b) (h' : zOr p q N b c) : zOr p q N a c := fun P x y => h' P (h P x y) y
theorem zOr_p (hc : 0 ≤ b ∧ b < N) (h : zOr p q N a b) : zOr p q N a (p b) := fun P x y => (y b hc.1 hc.2 (h P x y)).1
theorem zOr_q (hc : 0 ≤ b ∧ b < N) (h : zOr p q N a b) : zOr p q N a (q b) := fun P x y => (y b hc.1 hc.2 (h P x y)).2
theorem zOr_in (hp : zPm p q N) (ha : 0 ≤ a ∧ a < N) (h : zOr p q N a b) : 0 ≤ b ∧ b < N := h (fun x => 0 ≤ x ∧ x < N) ha (fun c c0 c1 _ => ⟨(hp c c0 c1).1, (hp c c0 c1).2.1⟩)
theorem zOr_sy (hp : zPm p q N) (ha : 0 ≤ a ∧ a < N) (h : zOr p q N a b) : zOr p q N b a := by
  have := h (fun x => (0 ≤ x ∧ x < N) ∧ zOr p q N x a) ⟨ha, zOr_r⟩ (fun c c0 c1 hx => by
    obtain ⟨h1, h2, h3, h4⟩ := hp c c0 c1
    refine ⟨⟨h1, zOr_tr ?_ hx.2⟩, ⟨h2, zOr_tr ?_ hx.2⟩⟩
    · have := zOr_q (p := p) (q := q) h1 zOr_r
      rw [h3] at this
      exact this
    · have := zOr_p (p := p) (q := q) h2 zOr_r
      rw [h4] at this
      exact this)
  exact this.2
theorem zOr_sw : zOr p q N a b ↔ zOr q p N a b := ⟨fun h P x y => h P x (fun c c0 c1 hc => (y c c0 c1 hc).symm), fun h P x y => h P x (fun c c0 c1 hc => (y c c0 c1 hc).symm)⟩
noncomputable def zle (p q : Int → Int) (N k : Int) : Int := zr (fun x => !zpd (zOr p q N x k)) N 0
theorem zle_p {k : Int} (hk : 0 ≤ k ∧ k < N) : 0 ≤ zle p q N k ∧ zle p q N k ≤ k ∧ zOr p q N (zle p q N k) k ∧ ∀ x, 0 ≤ x → x < zle p q N k → ¬ zOr p q N x k := by
  have hN : 0 ≤ N := by omega
  have h := zr_hit (P := fun x => !zpd (zOr p q N x k)) (L := N) 0 (by omega) hN ⟨k, hk.1, hk.2, by rw [zpd_t zOr_r]; rfl⟩
  have he := zr_end (P := fun x => !zpd (zOr p q N x k)) (L := N) (p := 0) hN h
  have hl := zr_le (P := fun x => !zpd (zOr p q N x k)) (L := N) (p := 0) hN
  have before : ∀ t, 0 ≤ t → t ≤ N → ∀ x, t ≤ x → x < zr (fun x => !zpd (zOr p q N x k)) N t → ¬ zOr p q N x k := by
    refine z_up (fun t t0 t1 ih x x0 x1 => ?_)
    by_cases g : t < N ∧ (!zpd (zOr p q N t k)) = true
    · rcases (by omega : t = x ∨ t + 1 ≤ x) with r | r
      · subst r
        intro w
        rw [zpd_t w] at g
        exact absurd g.2 (by decide)
      · rw [zr_y g.1 g.2] at x1
        exact ih g.1 x r x1
    · rw [zr_no g] at x1
      omega
  refine ⟨hl.1, ?_, ?_, before 0 (by omega) hN⟩
  · unfold zle
    rcases (by omega : zr (fun x => !zpd (zOr p q N x k)) N 0 ≤ k ∨ k < zr (fun x => !zpd (zOr p q N x k)) N 0) with r | r
    · exact r
    · exact absurd zOr_r (before 0 (by omega) hN k hk.1 r)
  · unfold zle
    have : zpd (zOr p q N (zr (fun x => !zpd (zOr p q N x k)) N 0) k) = true := by simpa using he
    exact zpd_i.mp this
theorem zle_eq (hp : zPm p q N) (ha : 0 ≤ a ∧ a < N) (h : zOr p q N a b) : zle p q N a = zle p q N b := by
  have hb := zOr_in hp ha h
  obtain ⟨a1, a2, a3, a4⟩ := zle_p (p := p) (q := q) ha
  obtain ⟨b1, b2, b3, b4⟩ := zle_p (p := p) (q := q) hb
  rcases (by omega : zle p q N a < zle p q N b ∨ zle p q N a = zle p q N b ∨ zle p q N b < zle p q N a) with r | r | r
  · exact absurd (zOr_tr a3 h) (b4 _ a1 r)
  · exact r
  · exact absurd (zOr_tr b3 (zOr_sy hp ha h)) (a4 _ b1 r)
noncomputable def zil (p q : Int → Int) (N k : Int) : Bool := decide (zle p q N k = k)
/-- the number of the orbit -/
noncomputable def zvx (p q : Int → Int) (N k : Int) : Int := zN (zle p q N k).toNat (zil p q N)
theorem zle_le {k : Int} (hp : zPm p q N) (hk : 0 ≤ k ∧ k < N) : zle p q N (zle p q N k) = zle p q N k := by
  obtain ⟨b1, b2, b3, b4⟩ := zle_p (p := p) (q := q) hk
  exact zle_eq hp ⟨b1, by omega⟩ b3
theorem zvx_lt (hp : zPm p q N) (ha : 0 ≤ a ∧ a < N) (hb : 0 ≤ b ∧ b < N) (h : zle p q N a < zle p q N b) : zvx p q N a < zvx p q N b := by
  have l := zle_le hp ha
  exact zN_lt' (zle_p ha).1 h (by unfold zil; exact decide_eq_true l)
theorem zvx_iff (hp : zPm p q N) (ha : 0 ≤ a ∧ a < N) (hb : 0 ≤ b ∧ b < N) : zvx p q N a = zvx p q N b ↔ zOr p q N a b := by
  constructor
  · intro h
    rcases (by omega : zle p q N a < zle p q N b ∨ zle p q N a = zle p q N b ∨ zle p q N b < zle p q N a) with r | r | r
    · have := zvx_lt hp ha hb r
      omega
    · have y := (zle_p (p := p) (q := q) hb).2.2.1
      rw [← r] at y
      exact zOr_tr (zOr_sy hp (by have := zle_p (p := p) (q := q) ha; omega) (zle_p (p := p) (q := q) ha).2.2.1) y
    · have := zvx_lt hp hb ha r
      omega
  · intro h
    unfold zvx
    rw [zle_eq hp ha h]
theorem zvx_sw {k : Int} : zvx p q N k = zvx q p N k := by
  have e : zle p q N = zle q p N := by
    funext k
    unfold zle
    rw [show (fun x => !zpd (zOr p q N x k)) = (fun x => !zpd (zOr q p N x k)) from funext fun x => by rw [propext zOr_sw]]
  unfold zvx zil
  rw [e]
/-! the walk round one orbit: v the number given, A0 as it was -/
def zVI (p q : Int → Int) (N j v : Int) (A0 A : Int → Int) (c i : Int) : Prop := (∀ k, 0 ≤ k → k < N → A k = v ∨ A k = A0 k) ∧ (∀ k, 0 ≤ k → k < N → A k = v → zOr p q N j k) ∧ (∀ k, 0 ≤ k → k < N → A k = v → k ≠ j → A (q k) = v) ∧ (∀ k, 0 ≤ k → k < N → A k = v → p k ≠ c → A (p k) = v) ∧ zOr p q N j c ∧ (c ≠ j → A c ≠ v) ∧ (A (q c) = v ∨ (c = j ∧ A c ≠ v)) ∧ i = zN N.toNat (fun k => decide (A k = v)) ∧ ∀ k, (k < 0 ∨ N ≤ k) → A k = A0 k
theorem zVI_0 {j v : Int} {A0 : Int → Int} (hp : zPm p q N) (hj : 0 ≤ j ∧ j < N) (h : ∀ k, 0 ≤ k → k < N → A0 k ≠ v) : zVI p q N j v A0 A0 j 0 := by
  refine ⟨fun k k0 k1 => Or.inr rfl, fun k k0 k1 q => absurd q (h k k0 k1), fun k k0 k1 q => absurd q (h k k0 k1), fun k k0 k1 q => absurd q (h k k0 k1), zOr_r, fun q => absurd rfl q, Or.inr ⟨rfl, h j hj.1 hj.2⟩, ?_, fun _ _ => rfl⟩
  have : zN N.toNat (fun k => decide (A0 k = v)) = zN N.toNat (fun _ => false) := zN_eq _ (fun k k0 k1 => decide_eq_false (h k k0 (by omega)))
  rw [this]
  have : ∀ n : Nat, zN n (fun _ => false) = 0 := fun n => by
    induction n with
    | zero => rfl
    | succ n ih => rw [zN_s, ih]; rfl
  rw [this]
theorem zN_set {A : Int → Int} {c v : Int} : ∀ n : Nat, 0 ≤ c → A c ≠ v → zN n (fun k => decide (zs_up A c v k = v)) = zN n (fun k => decide (A k = v)) + (if c < n then 1 else 0) := by
  intro n c0 h
  induction n with
  | zero => rw [if_neg (by omega)]; rfl
  | succ n ih =>
    rw [zN_s, zN_s, ih]
    by_cases g : (n : Int) = c
    · have e1 : zi (decide (zs_up A c v (n : Int) = v)) = 1 := zi_t (by unfold zs_up; rw [if_pos g]; exact decide_eq_true rfl)
      have e2 : zi (decide (A (n : Int) = v)) = 0 := zi_f (by rw [g]; exact decide_eq_false h)
      rw [e1, e2, if_neg (by omega), if_pos (by omega)]
    · have e1 : zi (decide (zs_up A c v (n : Int) = v)) = zi (decide (A (n : Int) = v)) := by unfold zs_up; rw [if_neg g]
      rw [e1]
      by_cases r : c < n
      · rw [if_pos r, if_pos (by omega)]
        omega
      · rw [if_neg r, if_neg (by omega)]
        omega
theorem zVI_s {j v i : Int} {A0 A : Int → Int} (hp : zPm p q N) (hj : 0 ≤ j ∧ j < N) (h : zVI p q N j v A0 A c i) (hc : A c ≠ v) : zVI p q N j v A0 (zs_up A c v) (p c) (i + 1) := by
  obtain ⟨h1, h2, h3, h4, h5, h6, h7, h8, h9⟩ := h
  have cN := zOr_in hp hj h5
  obtain ⟨p1, p2, p3, p4⟩ := hp c cN.1 cN.2
  have u : ∀ k, k ≠ c → zs_up A c v k = A k := fun k g => by unfold zs_up; exact if_neg g
  have uc : zs_up A c v c = v := by unfold zs_up; exact if_pos rfl
  have um : ∀ k, A k = v → zs_up A c v k = v := fun k g => by
    by_cases r : k = c
    · rw [r]
      exact uc
    · rw [u k r]
      exact g
  refine ⟨fun k k0 k1 => ?_, fun k k0 k1 g => ?_, fun k k0 k1 g gj => ?_, fun k k0 k1 g gp => ?_, zOr_p cN h5, fun g => ?_, Or.inl ?_, ?_, fun k g => ?_⟩
  · by_cases r : k = c
    · rw [r]
      exact Or.inl uc
    · rw [u k r]
      exact h1 k k0 k1
  · by_cases r : k = c
    · rw [r]
      exact h5
    · rw [u k r] at g
      exact h2 k k0 k1 g
  · by_cases r : k = c
    · rw [r] at gj ⊢
      rcases h7 with w | w
      · exact um _ w
      · exact absurd w.1 gj
    · rw [u k r] at g
      exact um _ (h3 k k0 k1 g gj)
  · by_cases r : k = c
    · rw [r] at gp
      exact absurd rfl gp
    · rw [u k r] at g
      by_cases s : p k = c
      · rw [s]
        exact uc
      · exact um _ (h4 k k0 k1 g s)
  · by_cases r : p c = c
    · rw [r] at g p3
      rcases h7 with w | w
      · rw [p3] at w
        exact absurd w hc
      · exact absurd w.1 g
    · rw [u _ r]
      intro w
      have := h3 _ p1.1 p1.2 w g
      rw [p3] at this
      exact hc this
  · rw [p3]
    exact uc
  · rw [zN_set N.toNat cN.1 hc, if_pos (by omega), ← h8]
  · rw [u k (by omega)]
    exact h9 k g
theorem zVI_e {j v i : Int} {A0 A : Int → Int} (hp : zPm p q N) (hj : 0 ≤ j ∧ j < N) (h : zVI p q N j v A0 A c i) (hc : A c = v) : ∀ k, 0 ≤ k → k < N → (A k = v ↔ zOr p q N j k) := by
  obtain ⟨h1, h2, h3, h4, h5, h6, h7, h8, h9⟩ := h
  have cj : c = j := by
    by_cases r : c = j
    · exact r
    · exact absurd hc (h6 r)
  subst cj
  have qc : A (q c) = v := by
    rcases h7 with w | w
    · exact w
    · exact absurd hc w.2
  intro k k0 k1
  refine ⟨h2 k k0 k1, fun w => ?_⟩
  have := w (fun x => (0 ≤ x ∧ x < N) ∧ A x = v) ⟨hj, hc⟩ (fun x x0 x1 hx => by
    obtain ⟨p1, p2, p3, p4⟩ := hp x x0 x1
    refine ⟨⟨p1, ?_⟩, ⟨p2, ?_⟩⟩
    · by_cases r : p x = c
      · rw [r]
        exact hc
      · exact h4 x x0 x1 hx.2 r
    · by_cases r : x = c
      · rw [r]
        exact qc
      · exact h3 x x0 x1 hx.2 r)
  exact this.2
/-- the corners of orbits with one ahead of j are numbered -/
def zVO (p q : Int → Int) (N j : Int) (A R : Int → Int) (V : Int) : Prop := (∀ k, 0 ≤ k → k < N → A k = if zle p q N k < j then zvx p q N k else -1) ∧ V = zN j.toNat (zil p q N) ∧ ∀ v, 0 ≤ v → v < V → R v = zN N.toNat (fun k => decide (zvx p q N k = v))
theorem zVO_no {j V : Int} {A R : Int → Int} (hp : zPm p q N) (hj : 0 ≤ j ∧ j < N) (h : zVO p q N j A R V) (hn : A j ≠ -1) : zVO p q N (j + 1) A R V := by
  obtain ⟨h1, h2, h3⟩ := h
  have lj : zle p q N j < j := by
    by_cases r : zle p q N j < j
    · exact r
    · rw [h1 j hj.1 hj.2, if_neg r] at hn
      exact absurd rfl hn
  refine ⟨fun k k0 k1 => ?_, ?_, h3⟩
  · rw [h1 k k0 k1]
    have : zle p q N k ≠ j := fun r => by
      have := zle_le hp ⟨k0, k1⟩
      rw [r] at this
      omega
    by_cases r : zle p q N k < j
    · rw [if_pos r, if_pos (by omega)]
    · rw [if_neg r, if_neg (by omega)]
  · rw [zN_up hj.1, zi_f (by unfold zil; exact decide_eq_false (by omega)), h2]
    omega
theorem zVO_v {j V : Int} {A R : Int → Int} (hp : zPm p q N) (hj : 0 ≤ j ∧ j < N) (h : zVO p q N j A R V) (hn : A j = -1) : zle p q N j = j ∧ zvx p q N j = V ∧ 0 ≤ V ∧ V < zN N.toNat (zil p q N) ∧ (∀ k, 0 ≤ k → k < N → A k ≠ V) := by
  obtain ⟨h1, h2, h3⟩ := h
  have lp := zle_p (p := p) (q := q) hj
  have lj : zle p q N j = j := by
    by_cases r : zle p q N j < j
    · rw [h1 j hj.1 hj.2, if_pos r] at hn
      have : 0 ≤ zvx p q N j := (zN_r _).1
      omega
    · omega
  have il : zil p q N j = true := by unfold zil; exact decide_eq_true lj
  have V0 := (zN_r (P := zil p q N) j.toNat).1
  have ev : zvx p q N j = V := by
    unfold zvx
    rw [lj, h2]
  refine ⟨lj, ev, by omega, ?_, fun k k0 k1 g => ?_⟩
  · rw [h2]
    exact zN_lt' hj.1 hj.2 il
  · rw [h1 k k0 k1] at g
    by_cases r : zle p q N k < j
    · rw [if_pos r] at g
      have := zvx_lt hp ⟨k0, k1⟩ hj (by omega)
      omega
    · rw [if_neg r] at g
      omega
theorem zVO_yes {j V i : Int} {A A' R R' : Int → Int} (hp : zPm p q N) (hj : 0 ≤ j ∧ j < N) (h : zVO p q N j A R V) (hn : A j = -1) (h' : zVI p q N j V A A' c i) (hc : A' c = V) (hR : R' V = i) (hR' : ∀ v, v ≠ V → R' v = R v) : zVO p q N (j + 1) A' R' (V + 1) := by
  obtain ⟨lj, ev, V0, V1, nv⟩ := zVO_v hp hj h hn
  have cl := zVI_e hp hj h' hc
  obtain ⟨h1, h2, h3⟩ := h
  have il : zil p q N j = true := by unfold zil; exact decide_eq_true lj
  have eA : ∀ k, 0 ≤ k → k < N → A' k = if zle p q N k < j + 1 then zvx p q N k else -1 := fun k k0 k1 => by
    by_cases g : A' k = V
    · have o := (cl k k0 k1).mp g
      have e := zle_eq hp hj o
      rw [lj] at e
      rw [if_pos (by omega), g, ← ev]
      exact ((zvx_iff hp hj ⟨k0, k1⟩).mpr o)
    · have e : A' k = A k := by
        rcases h'.1 k k0 k1 with r | r
        · exact absurd r g
        · exact r
      have ne : zle p q N k ≠ j := fun r => g ((cl k k0 k1).mpr (by
        have := (zle_p (p := p) (q := q) ⟨k0, k1⟩).2.2.1
        rw [r] at this
        exact this))
      rw [e, h1 k k0 k1]
      by_cases r : zle p q N k < j
      · rw [if_pos r, if_pos (by omega)]
      · rw [if_neg r, if_neg (by omega)]
  refine ⟨eA, ?_, fun v v0 v1 => ?_⟩
  · rw [zN_up hj.1, zi_t il, h2]
  · by_cases g : v = V
    · subst g
      rw [hR, h'.2.2.2.2.2.2.2.1]
      refine zN_eq _ (fun k k0 k1 => ?_)
      by_cases r : A' k = v
      · have := (zvx_iff hp hj ⟨k0, by omega⟩).mpr ((cl k k0 (by omega)).mp r)
        rw [decide_eq_true r, decide_eq_true (by omega)]
      · rw [decide_eq_false r, decide_eq_false (fun w => r ((cl k k0 (by omega)).mpr ((zvx_iff hp hj ⟨k0, by omega⟩).mp (by omega))))]
    · rw [hR' v g]
      exact h3 v v0 (by omega)
end OA

/-! TRADES: what is cut off moves as one -/
/-- each HINGE is rolled over rightly -/
def zCs (p : zP) (X Y T : Int → Int) : Prop := ∀ k, 0 ≤ k → k < 4 * pF p → pH p (pe p k) = true → X (pa p k / 4) = X (k / 4) + zsx (zwy T k) ∧ Y (pa p k / 4) = Y (k / 4) + zsy (zwy T k) ∧ T (pa p k / 4) = ztn (pa p) T k
def zoff (p : zP) (h f : Int) : Bool := zPl p f && !zPl (psH p (zof (pH p) h)) f
def zrest (p : zP) (h f : Int) : Bool := zPl (psH p (zof (pH p) h)) f
abbrev psT (p : zP) (e h : Int) : zP := psH p (zon (zof (pH p) h) e)
section RG
variable {a b c e h k f r s : Int} {p : zP} {L : List Int} {F : Int} {ac ed es X Y T : Int → Int} {H : Int → Bool}
theorem zpo_Ly : ∀ {L : List Int}, zTr F ac ed H r L → zLy ac r (fun f => (zpo ac L f).1) (fun f => (zpo ac L f).2.1) (fun f => (zpo ac L f).2.2) L
  | [], _ => ⟨rfl, rfl, rfl⟩
  | k :: L, ht => by
    obtain ⟨⟨h1, h2, h3, h4⟩, h5⟩ := ht
    have ne : k / 4 ≠ ac k / 4 := fun w => by rw [← w, h3] at h4; cases h4
    have e1 : zpo ac (k :: L) (ac k / 4) = ((zpo ac L (k / 4)).1 + zsx ((k + (zpo ac L (k / 4)).2.2) % 4), (zpo ac L (k / 4)).2.1 + zsy ((k + (zpo ac L (k / 4)).2.2) % 4), ((k + (zpo ac L (k / 4)).2.2) % 4 + 2 - ac k % 4) % 4) := if_pos rfl
    have e2 : zpo ac (k :: L) (k / 4) = zpo ac L (k / 4) := if_neg ne
    have ih := zpo_Ly h5
    refine ⟨⟨?_, ?_, ?_⟩, zLy_ag h5 ih (fun f hf => ?_)⟩
    · show (zpo ac (k :: L) (ac k / 4)).1 = (zpo ac (k :: L) (k / 4)).1 + zsx ((k + (zpo ac (k :: L) (k / 4)).2.2) % 4)
      rw [e1, e2]
    · show (zpo ac (k :: L) (ac k / 4)).2.1 = (zpo ac (k :: L) (k / 4)).2.1 + zsy ((k + (zpo ac (k :: L) (k / 4)).2.2) % 4)
      rw [e1, e2]
    · show (zpo ac (k :: L) (ac k / 4)).2.2 = ((k + (zpo ac (k :: L) (k / 4)).2.2) % 4 + 2 - ac k % 4) % 4
      rw [e1, e2]
    · have nf : f ≠ ac k / 4 := fun w => by rw [w, h4] at hf; cases hf
      have e3 : zpo ac (k :: L) f = zpo ac L f := if_neg nf
      show (zpo ac (k :: L) f).1 = (zpo ac L f).1 ∧ (zpo ac (k :: L) f).2.1 = (zpo ac L f).2.1 ∧ (zpo ac (k :: L) f).2.2 = (zpo ac L f).2.2
      rw [e3]
      exact ⟨rfl, rfl, rfl⟩
theorem zLy_mem : ∀ {L : List Int}, zLy ac r X Y T L → (X r = 0 ∧ Y r = 0 ∧ T r = 0) ∧ ∀ k ∈ L, X (ac k / 4) = X (k / 4) + zsx (zwy T k) ∧ Y (ac k / 4) = Y (k / 4) + zsy (zwy T k) ∧ T (ac k / 4) = ztn ac T k
  | [], h => ⟨h, fun k hk => by cases hk⟩
  | k' :: L, h => by
    obtain ⟨i1, i2⟩ := zLy_mem h.2
    refine ⟨i1, fun k hk => ?_⟩
    rcases List.mem_cons.mp hk with w | w
    · rw [w]
      exact h.1
    · exact i2 k w
theorem zHl_mem : ∀ {L : List Int}, zHl ed L e = true → ∃ k ∈ L, ed k = e
  | [], h => by cases h
  | k :: L, h => by
    by_cases q : e = ed k
    · exact ⟨k, List.mem_cons_self, q.symm⟩
    · have h' : zon (zHl ed L) (ed k) e = true := h
      rw [zon_ne q] at h'
      obtain ⟨k', k1, k2⟩ := zHl_mem h'
      exact ⟨k', List.mem_cons_of_mem _ k1, k2⟩
theorem zTr_mem : ∀ {L : List Int}, zTr F ac ed H r L → ∀ k ∈ L, (0 ≤ k ∧ k < 4 * F) ∧ H (ed k) = true
  | [], _, k, hk => by cases hk
  | k' :: L, h, k, hk => by
    rcases List.mem_cons.mp hk with w | w
    · rw [w]
      exact ⟨h.1.1, h.1.2.1⟩
    · exact zTr_mem h.2 k w
/-- rolled back, it lies as before -/
theorem zroll {x y t x' y' t' q k2 : Int} (ht : 0 ≤ t ∧ t < 4) (hx : x' = x + zsx ((k + t) % 4)) (hy : y' = y + zsy ((k + t) % 4)) (htt : t' = ((k + t) % 4 + 2 - q % 4) % 4) (hk2 : k2 % 4 = k % 4) : x = x' + zsx ((q + t') % 4) ∧ y = y' + zsy ((q + t') % 4) ∧ t = ((q + t') % 4 + 2 - k2 % 4) % 4 := by
  have e : (q + t') % 4 = ((k + t) % 4 + 2) % 4 := by omega
  rw [e]
  have w : 0 ≤ (k + t) % 4 ∧ (k + t) % 4 < 4 := by omega
  have ex : zsx (((k + t) % 4 + 2) % 4) = -zsx ((k + t) % 4) ∧ zsy (((k + t) % 4 + 2) % 4) = -zsy ((k + t) % 4) := by
    refine zd4 (P := fun w => zsx ((w + 2) % 4) = -zsx w ∧ zsy ((w + 2) % 4) = -zsy w) w ?_ ?_ ?_ ?_ <;> decide
  rw [ex.1, ex.2]
  refine ⟨by omega, by omega, by omega⟩
theorem zWo_J (hw : zWo p) (hv : zV p) (hr : 0 ≤ r ∧ r < pF p) (hf : 0 ≤ f ∧ f < pF p) : zJ (pF p) (pa p) (pe p) (pH p) r f := zJ_tr (zJ_sy (zV_sk hv) (hw.2 r hr.1 hr.2)) (hw.2 f hf.1 hf.2)
theorem zr_of (hw : zWo p) (hv : zV p) : 0 ≤ pr p ∧ pr p < pF p := by
  have := hv.2.2.2.2.2.1
  have := hw.1
  omega
theorem zPl_w (hw : zWo p) (hv : zV p) (hf : 0 ≤ f ∧ f < pF p) : zPl p f = true := (zPl_J hv hf).mpr (zWo_J hw hv (zr_of hw hv) hf)
theorem zCs_of (hv : zV p) (hw : zWo p) : zCs p (zX p) (zY p) (zT p) := by
  have sk := zV_sk hv
  have hr := zr_of hw hv
  have ht := zBF_tr (H := pH p) sk hr
  have ly := zLy_mem (zpo_Ly ht)
  have hall := zHl_all sk hv.2.2.2.1 hr (fun f f0 f1 => zWo_J hw hv hr ⟨f0, f1⟩)
  intro k k0 k1 hh
  have := hall k k0 k1
  rw [hh] at this
  obtain ⟨k', m1, m2⟩ := zHl_mem this
  obtain ⟨kr, _⟩ := zTr_mem ht k' m1
  have l := ly.2 k' m1
  rcases zsame sk ⟨k0, k1⟩ kr m2.symm with w | w
  · rw [w]
    exact l
  · obtain ⟨s1, s2, s3, s4, s5, s6⟩ := sk.2.1 k' kr.1 kr.2
    have b := (zpo_b hv (zPl_w hw hv (f := k' / 4) (by omega))).2.2
    rw [w, s2]
    exact zroll (x := zX p (k' / 4)) (y := zY p (k' / 4)) (t := zT p (k' / 4)) (x' := zX p (pa p k' / 4)) (y' := zY p (pa p k' / 4)) (t' := zT p (pa p k' / 4)) (k := k') (q := pa p k') (k2 := pa p (pa p k')) b l.1 l.2.1 l.2.2 (by rw [s2])
theorem zLy_cs : ∀ {L : List Int}, zTr (pF p) (pa p) (pe p) (pH p) r L → zCs p X Y T → (X r = 0 ∧ Y r = 0 ∧ T r = 0) → zLy (pa p) r X Y T L
  | [], _, _, h0 => h0
  | k :: L, ht, hc, h0 => ⟨hc k ht.1.1.1 ht.1.1.2 ht.1.2.1, zLy_cs ht.2 hc h0⟩
theorem zX_cs (hv : zV p) (hw : zWo p) (hc : zCs p X Y T) (h0 : X (pr p) = 0 ∧ Y (pr p) = 0 ∧ T (pr p) = 0) (hf : 0 ≤ f ∧ f < pF p) : zX p f = X f ∧ zY p f = Y f ∧ zT p f = T f := by
  have sk := zV_sk hv
  have hr := zr_of hw hv
  have ht := zBF_tr (H := pH p) sk hr
  have pl := zPl_w hw hv hf
  rw [zPl_e hw.1] at pl
  obtain ⟨a1, a2, a3⟩ := zLy_po ht (zLy_cs ht hc h0) f pl
  exact ⟨a1.symm, a2.symm, a3.symm⟩
/-! the trade -/
/-- one may be traded for the other -/
def zTd (p : zP) (e h : Int) : Prop := (0 ≤ e ∧ e < 2 * pF p) ∧ (0 ≤ h ∧ h < 2 * pF p) ∧ pH p e = false ∧ pH p h = true ∧ ¬ zje (psH p (zof (pH p) h)) e
theorem zT_V (hv : zV p) (ht : zTd p e h) : zV (psT p e h) := zV_on (p := psH p (zof (pH p) h)) (a := e) (zV_of hv) ht.1 ht.2.2.2.2
theorem zT_n (hv : zV p) (ht : zTd p e h) : zhm (zon (zof (pH p) h) e) = zhm (pH p) := by
  obtain ⟨t1, t2, t3, t4, t5⟩ := ht
  have F0 : 0 ≤ pF p ∧ pF p ≤ 30 := (zV_sk hv).1
  have o1 := zN_off (P := pH p) (a := h) (n := 60) (by omega) t4
  have ne : e ≠ h := fun w => by rw [w, t4] at t3; cases t3
  have z : zof (pH p) h e = false := by rw [zof_ne ne, t3]
  have o2 := zN_on (P := zof (pH p) h) (a := e) 60 t1.1 z
  rw [if_pos (by omega)] at o2
  unfold zhm
  have e1 : zN 60 (zon (zof (pH p) h) e) = zN 60 (fun x => decide (x = e) || zof (pH p) h x) := rfl
  have e2 : zN 60 (zof (pH p) h) = zN 60 (fun x => pH p x && !decide (x = h)) := rfl
  omega
theorem zT_W (hv : zV p) (hw : zWo p) (ht : zTd p e h) : zWo (psT p e h) := by
  have := (zWo_n hv).mp hw
  exact (zWo_n (zT_V hv ht)).mpr ⟨this.1, by show zhm (zon (zof (pH p) h) e) = pF p - 1; rw [zT_n hv ht]; exact this.2⟩
theorem zoff_iff (hv : zV p) (hw : zWo p) (hf : 0 ≤ f ∧ f < pF p) : (zoff p h f = true ↔ ¬ zJ (pF p) (pa p) (pe p) (zof (pH p) h) (pr p) f) ∧ (zrest p h f = true ↔ zJ (pF p) (pa p) (pe p) (zof (pH p) h) (pr p) f) := by
  have a := zPl_J (p := psH p (zof (pH p) h)) (f := f) (zV_of hv) hf
  have pl := zPl_w hw hv hf
  unfold zoff zrest
  rw [pl]
  constructor
  · rw [Bool.true_and, Bool.not_eq_true']
    constructor
    · intro w y
      rw [a.mpr y] at w
      cases w
    · intro w
      cases hz : zPl (psH p (zof (pH p) h)) f with
      | false => rfl
      | true => exact absurd (a.mp hz) w
  · exact a
theorem zoff_r (hv : zV p) (hf : zoff p h f = true) : 0 ≤ f ∧ f < pF p := by
  unfold zoff at hf
  rw [Bool.and_eq_true] at hf
  exact (zPl_in hv hf.1).1
theorem zrest_r (hv : zV p) (hf : zrest p h f = true) : 0 ≤ f ∧ f < pF p := (zPl_in (p := psH p (zof (pH p) h)) (zV_of hv) hf).1
/-- two of the same part are joined without the HINGE -/
theorem zoff_J (hv : zV p) (hw : zWo p) (hh : 0 ≤ h ∧ h < 2 * pF p) (hH : pH p h = true) (ha : 0 ≤ a ∧ a < pF p) (hb : 0 ≤ b ∧ b < pF p) : zoff p h a = zoff p h b ↔ zJ (pF p) (pa p) (pe p) (zof (pH p) h) a b := by
  have sk := zV_sk hv
  have hr := zr_of hw hv
  obtain ⟨e1, e2, _⟩ := zV_e hv hh
  obtain ⟨s1, s2, s3, s4, s5, s6⟩ := sk.2.1 _ e1.1 e1.2
  have ia := (zoff_iff (h := h) hv hw ha).1
  have ib := (zoff_iff (h := h) hv hw hb).1
  constructor
  · intro hab
    by_cases w : zoff p h a = true
    · have wb : zoff p h b = true := by rw [← hab]; exact w
      have na := ia.mp w
      have nb := ib.mp wb
      have back : zon (zof (pH p) h) (pe p (pq p h)) = pH p := by rw [e2, zon_of hH]
      have ends : ∀ f, (0 ≤ f ∧ f < pF p) → ¬ zJ (pF p) (pa p) (pe p) (zof (pH p) h) (pr p) f → (zJ (pF p) (pa p) (pe p) (zof (pH p) h) (pr p) (pq p h / 4) ∧ zJ (pF p) (pa p) (pe p) (zof (pH p) h) (pa p (pq p h) / 4) f) ∨ (zJ (pF p) (pa p) (pe p) (zof (pH p) h) (pr p) (pa p (pq p h) / 4) ∧ zJ (pF p) (pa p) (pe p) (zof (pH p) h) (pq p h / 4) f) := fun f hf nf => by
        have j := zWo_J hw hv hr hf
        have := zJ_add (H := zof (pH p) h) sk e1 (a := pr p) (b := f) (by rw [back]; exact j)
        rcases this with x | x | x
        · exact absurd x nf
        · exact Or.inl x
        · exact Or.inr x
      have nj := hv.2.2.2.1 _ e1.1 e1.2 (by rw [e2]; exact hH)
      rw [e2] at nj
      rcases ends a ha na with x | x <;> rcases ends b hb nb with y | y
      · exact zJ_tr (zJ_sy sk x.2) y.2
      · exact absurd (zJ_tr (zJ_sy sk x.1) y.1) nj
      · exact absurd (zJ_tr (zJ_sy sk y.1) x.1) nj
      · exact zJ_tr (zJ_sy sk x.2) y.2
    · have wb : ¬ zoff p h b = true := by rw [← hab]; exact w
      have ja : zJ (pF p) (pa p) (pe p) (zof (pH p) h) (pr p) a := Classical.byContradiction fun x => w (ia.mpr x)
      have jb : zJ (pF p) (pa p) (pe p) (zof (pH p) h) (pr p) b := Classical.byContradiction fun x => wb (ib.mpr x)
      exact zJ_tr (zJ_sy sk ja) jb
  · intro hj
    by_cases w : zoff p h a = true
    · have : zoff p h b = true := ib.mpr (fun x => ia.mp w (zJ_tr x (zJ_sy sk hj)))
      rw [w, this]
    · have : ¬ zoff p h b = true := fun x => w (ia.mpr (fun y => ib.mp x (zJ_tr y hj)))
      cases hz : zoff p h a with
      | true => exact absurd hz w
      | false =>
        cases hz2 : zoff p h b with
        | true => exact absurd hz2 this
        | false => rfl
/-- where it moves: turned by c round the square of the side that moves -/
def zmc (p : zP) (s : Int) : Int := (ztn (pa p) (zT p) s - zT p (pa p s / 4)) % 4
def zmX (p : zP) (s f : Int) : Int := zX p (s / 4) + zsx (zwy (zT p) s) + (zX p f - zX p (pa p s / 4)) * zsx (zmc p s) - (zY p f - zY p (pa p s / 4)) * zsy (zmc p s)
def zmY (p : zP) (s f : Int) : Int := zY p (s / 4) + zsy (zwy (zT p) s) + (zX p f - zX p (pa p s / 4)) * zsy (zmc p s) + (zY p f - zY p (pa p s / 4)) * zsx (zmc p s)
def zmT (p : zP) (s f : Int) : Int := (zT p f + zmc p s) % 4
def znX (p : zP) (h s f : Int) : Int := if zoff p h f = true then zmX p s f else zX p f
def znY (p : zP) (h s f : Int) : Int := if zoff p h f = true then zmY p s f else zY p f
def znT (p : zP) (h s f : Int) : Int := if zoff p h f = true then zmT p s f else zT p f
theorem zrot {c w : Int} (hc : 0 ≤ c ∧ c < 4) (hw : 0 ≤ w ∧ w < 4) : zsx ((w + c) % 4) = zsx w * zsx c - zsy w * zsy c ∧ zsy ((w + c) % 4) = zsx w * zsy c + zsy w * zsx c := by
  have key : ∀ c, 0 ≤ c ∧ c < 4 → ∀ w, 0 ≤ w ∧ w < 4 → zsx ((w + c) % 4) = zsx w * zsx c - zsy w * zsy c ∧ zsy ((w + c) % 4) = zsx w * zsy c + zsy w * zsx c := by
    intro c hc
    refine zd4 (P := fun c => ∀ w, 0 ≤ w ∧ w < 4 → zsx ((w + c) % 4) = zsx w * zsx c - zsy w * zsy c ∧ zsy ((w + c) % 4) = zsx w * zsy c + zsy w * zsx c) hc ?_ ?_ ?_ ?_ <;> (intro w hw; refine zd4 (P := fun w => zsx ((w + _) % 4) = zsx w * zsx _ - zsy w * zsy _ ∧ zsy ((w + _) % 4) = zsx w * zsy _ + zsy w * zsx _) hw ?_ ?_ ?_ ?_ <;> decide)
  exact key c hc w hw
/-- the new plane is rolled rightly -/
theorem zmoved (hv : zV p) (hw : zWo p) (ht : zTd p e h) (hs : 0 ≤ s ∧ s < 4 * pF p) (hse : pe p s = e) (hso : zoff p h (s / 4) = false) (hmo : zoff p h (pa p s / 4) = true) (hf : 0 ≤ f ∧ f < pF p) : zX (psT p e h) f = znX p h s f ∧ zY (psT p e h) f = znY p h s f ∧ zT (psT p e h) f = znT p h s f := by
  have sk := zV_sk hv
  have hr := zr_of hw hv
  obtain ⟨t1, t2, t3, t4, t5⟩ := id ht
  have cs := zCs_of hv hw
  have bd : ∀ f, 0 ≤ f → f < pF p → 0 ≤ zT p f ∧ zT p f < 4 := fun f f0 f1 => (zpo_b hv (zPl_w hw hv ⟨f0, f1⟩)).2.2
  have hc4 : 0 ≤ zmc p s ∧ zmc p s < 4 := by unfold zmc; omega
  obtain ⟨u1, u2, u3, u4, u5, u6⟩ := sk.2.1 _ hs.1 hs.2
  have Tr : ∀ f, 0 ≤ f → f < pF p → 0 ≤ znT p h s f ∧ znT p h s f < 4 := fun f f0 f1 => by
    unfold znT
    split
    · unfold zmT
      omega
    · exact bd f f0 f1
  have stay : znX p h s (pa p s / 4) = znX p h s (s / 4) + zsx (zwy (znT p h s) s) ∧ znY p h s (pa p s / 4) = znY p h s (s / 4) + zsy (zwy (znT p h s) s) ∧ znT p h s (pa p s / 4) = ztn (pa p) (znT p h s) s := by
    have e1 : znT p h s (s / 4) = zT p (s / 4) := by unfold znT; rw [if_neg (by rw [hso]; decide)]
    have ew : zwy (znT p h s) s = zwy (zT p) s := by unfold zwy; rw [e1]
    have et : ztn (pa p) (znT p h s) s = ztn (pa p) (zT p) s := by unfold ztn; rw [ew]
    rw [ew, et]
    refine ⟨?_, ?_, ?_⟩
    · unfold znX
      rw [if_pos hmo, if_neg (by rw [hso]; decide)]
      unfold zmX
      rw [Int.sub_self, Int.sub_self, Int.zero_mul, Int.zero_mul]
      omega
    · unfold znY
      rw [if_pos hmo, if_neg (by rw [hso]; decide)]
      unfold zmY
      rw [Int.sub_self, Int.sub_self, Int.zero_mul, Int.zero_mul]
      omega
    · unfold znT
      rw [if_pos hmo]
      unfold zmT zmc
      have b1 := bd (pa p s / 4) (by omega) (by omega)
      have b2 : 0 ≤ ztn (pa p) (zT p) s ∧ ztn (pa p) (zT p) s < 4 := by unfold ztn; omega
      omega
  have ncs : zCs (psT p e h) (znX p h s) (znY p h s) (znT p h s) := by
    intro k k0 k1 hh
    have k0' : 0 ≤ k := k0
    have k1' : k < 4 * pF p := k1
    obtain ⟨v1, v2, v3, v4, v5, v6⟩ := sk.2.1 _ k0' k1'
    by_cases q : pe p k = e
    · rcases zsame sk ⟨k0', k1'⟩ hs (by rw [q, hse]) with w | w
      · rw [w]
        exact stay
      · rw [w]
        show znX p h s (pa p (pa p s) / 4) = _ ∧ _
        have b := Tr (s / 4) (by omega) (by omega)
        have := zroll (k := s) (q := pa p s) (k2 := s) b stay.1 stay.2.1 stay.2.2 rfl
        refine ⟨?_, ?_, ?_⟩
        · show znX p h s (pa p (pa p s) / 4) = znX p h s (pa p s / 4) + zsx ((pa p s + znT p h s (pa p s / 4)) % 4)
          rw [u2]
          exact this.1
        · show znY p h s (pa p (pa p s) / 4) = znY p h s (pa p s / 4) + zsy ((pa p s + znT p h s (pa p s / 4)) % 4)
          rw [u2]
          exact this.2.1
        · show znT p h s (pa p (pa p s) / 4) = ((pa p s + znT p h s (pa p s / 4)) % 4 + 2 - pa p (pa p s) % 4) % 4
          rw [u2]
          exact this.2.2
    · have hh1 : zon (zof (pH p) h) e (pe p k) = true := hh
      rw [zon_ne q] at hh1
      have hH := zof_m hh1
      obtain ⟨c1, c2, c3⟩ := cs k k0' k1' hH
      have jj : zJ (pF p) (pa p) (pe p) (zof (pH p) h) (k / 4) (pa p k / 4) := zJ_st ⟨k0', k1'⟩ hh1 zJ_r
      have same := (zoff_J hv hw t2 t4 (a := k / 4) (b := pa p k / 4) (by omega) (by omega)).mpr jj
      show znX p h s (pa p k / 4) = znX p h s (k / 4) + zsx ((k + znT p h s (k / 4)) % 4) ∧ znY p h s (pa p k / 4) = znY p h s (k / 4) + zsy ((k + znT p h s (k / 4)) % 4) ∧ znT p h s (pa p k / 4) = ((k + znT p h s (k / 4)) % 4 + 2 - pa p k % 4) % 4
      unfold znX znY znT
      rw [← same]
      cases hz : zoff p h (k / 4) with
      | false =>
        rw [if_neg (by decide), if_neg (by decide), if_neg (by decide), if_neg (by decide), if_neg (by decide), if_neg (by decide)]
        exact ⟨c1, c2, c3⟩
      | true =>
        rw [if_pos rfl, if_pos rfl, if_pos rfl, if_pos rfl, if_pos rfl, if_pos rfl]
        have b1 := bd (k / 4) (by omega) (by omega)
        have w4 : 0 ≤ zwy (zT p) k ∧ zwy (zT p) k < 4 := zwy_r
        obtain ⟨r1, r2⟩ := zrot hc4 w4
        have ew : (k + zmT p s (k / 4)) % 4 = (zwy (zT p) k + zmc p s) % 4 := by unfold zmT zwy; omega
        rw [ew, r1, r2]
        unfold zmX zmY
        rw [c1, c2]
        refine ⟨?_, ?_, ?_⟩
        · rw [show zX p (k / 4) + zsx (zwy (zT p) k) - zX p (pa p s / 4) = (zX p (k / 4) - zX p (pa p s / 4)) + zsx (zwy (zT p) k) by omega, show zY p (k / 4) + zsy (zwy (zT p) k) - zY p (pa p s / 4) = (zY p (k / 4) - zY p (pa p s / 4)) + zsy (zwy (zT p) k) by omega, Int.add_mul, Int.add_mul]
          omega
        · rw [show zX p (k / 4) + zsx (zwy (zT p) k) - zX p (pa p s / 4) = (zX p (k / 4) - zX p (pa p s / 4)) + zsx (zwy (zT p) k) by omega, show zY p (k / 4) + zsy (zwy (zT p) k) - zY p (pa p s / 4) = (zY p (k / 4) - zY p (pa p s / 4)) + zsy (zwy (zT p) k) by omega, Int.add_mul, Int.add_mul]
          omega
        · unfold zmT
          rw [c3]
          unfold ztn
          omega
  have r0 := (zLy_mem (zpo_Ly (zBF_tr (H := pH p) sk hr))).1
  have nr : zoff p h (pr p) = false := by
    cases hz : zoff p h (pr p) with
    | false => rfl
    | true => exact absurd zJ_r ((zoff_iff hv hw hr).1.mp hz)
  refine zX_cs (zT_V hv ht) (zT_W hv hw ht) ncs ⟨?_, ?_, ?_⟩ hf
  · show znX p h s (pr p) = 0
    unfold znX
    rw [if_neg (by rw [nr]; decide)]
    exact r0.1
  · show znY p h s (pr p) = 0
    unfold znY
    rw [if_neg (by rw [nr]; decide)]
    exact r0.2.1
  · show znT p h s (pr p) = 0
    unfold znT
    rw [if_neg (by rw [nr]; decide)]
    exact r0.2.2
end RG

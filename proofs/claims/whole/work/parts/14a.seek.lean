/-! THE FIRST NET: the search, told once -/
abbrev zTT : Type := List (Int × Bool)
def zto : zTT → Int → Int
  | [], _ => 0
  | x :: T, e => if e = x.1 then (if x.2 = true then 1 else 2) else zto T e
def zsdL (p : zP) (L : List Int) (e : Int) : Int := if zin (pa p) (pr p) L (pq p e / 4) = true then pq p e else pa p (pq p e)
def zLl (p : zP) : zTT → List Int
  | [] => []
  | x :: T => if x.2 = true then zsdL p (zLl p T) x.1 :: zLl p T else zLl p T
def zfrT (p : zP) (T : zTT) (e : Int) : Bool := decide (zto T e = 0) && (zin (pa p) (pr p) (zLl p T) (pq p e / 4) != zin (pa p) (pr p) (zLl p T) (pa p (pq p e) / 4))
def zle' (p : zP) (T : zTT) : Int := zr (fun e => !zfrT p T e) (2 * pF p) 0
def zkX (p : zP) (L : List Int) (k : Int) : Int := (zpo (pa p) L (k / 4)).1 + zsx ((k + (zpo (pa p) L (k / 4)).2.2) % 4)
def zkY (p : zP) (L : List Int) (k : Int) : Int := (zpo (pa p) L (k / 4)).2.1 + zsy ((k + (zpo (pa p) L (k / 4)).2.2) % 4)
def zatL (p : zP) (L : List Int) (x y f : Int) : Bool := zin (pa p) (pr p) L f && decide ((zpo (pa p) L f).1 = x) && decide ((zpo (pa p) L f).2.1 = y)
def ztk (p : zP) (L : List Int) (x y : Int) : Bool := decide (0 < zN 30 (zatL p L x y))
def zfre' (p : zP) (T : zTT) (e : Int) : Bool := !ztk p (zLl p T) (zkX p (zLl p T) (zsdL p (zLl p T) e)) (zkY p (zLl p T) (zsdL p (zLl p T) e))
def zbk : zTT → zTT
  | [] => []
  | x :: T => if x.2 = true then (x.1, false) :: T else zbk T
def zrun (p : zP) : Nat → zTT → Int × zTT
  | 0, T => (-3, T)
  | n + 1, T => if ((zLl p T).length : Int) + 1 = pF p then ((n : Int), T) else if zle' p T < 2 * pF p then zrun p n ((zle' p T, zfre' p T (zle' p T)) :: T) else if (zbk T).length = 0 then (-2, []) else zrun p n (zbk T)
def zback (p : zP) (n : Nat) (T : zTT) : Int × zTT := if (zbk T).length = 0 then (-2, []) else zrun p n (zbk T)
/-- what a search has told -/
def zTI (p : zP) : zTT → Prop
  | [] => True
  | x :: T => ((0 ≤ x.1 ∧ x.1 < 2 * pF p) ∧ zto T x.1 = 0 ∧ zin (pa p) (pr p) (zLl p T) (zsdL p (zLl p T) x.1 / 4) = true ∧ zin (pa p) (pr p) (zLl p T) (pa p (zsdL p (zLl p T) x.1) / 4) = false) ∧ zTI p T
abbrev zTH (T : zTT) : Int → Bool := fun e => decide (zto T e = 1)
section SE
variable {a b e h k v r f s x y w : Int} {n c : Nat} {p : zP} {T : zTT} {L : List Int}
theorem zto_r : ∀ {T : zTT}, 0 ≤ zto T e ∧ zto T e ≤ 2
  | [] => ⟨by show (0 : Int) ≤ 0; omega, by show (0 : Int) ≤ 2; omega⟩
  | x :: T => by
    show 0 ≤ (if e = x.1 then (if x.2 = true then 1 else 2) else zto T e) ∧ (if e = x.1 then (if x.2 = true then 1 else 2) else zto T e) ≤ (2 : Int)
    have := zto_r (T := T)
    split
    · split <;> omega
    · exact this
theorem zto_e {x : Int × Bool} : zto (x :: T) x.1 = if x.2 = true then 1 else 2 := if_pos rfl
theorem zto_ne {x : Int × Bool} (h : e ≠ x.1) : zto (x :: T) e = zto T e := if_neg h
theorem zto_in : ∀ {T : zTT}, zTI p T → zto T e ≠ 0 → 0 ≤ e ∧ e < 2 * pF p
  | [], _, h => absurd rfl h
  | x :: T, ht, h => by
    by_cases q : e = x.1
    · rw [q]
      exact ht.1.1
    · rw [zto_ne q] at h
      exact zto_in ht.2 h
theorem zsdL_r (hv : zV p) (he : 0 ≤ e ∧ e < 2 * pF p) : (0 ≤ zsdL p L e ∧ zsdL p L e < 4 * pF p) ∧ pe p (zsdL p L e) = e ∧ (zsdL p L e = pq p e ∨ zsdL p L e = pa p (pq p e)) ∧ pa p (pa p (pq p e)) = pq p e := by
  have sk := zV_sk hv
  obtain ⟨r1, r2, _⟩ := zV_e hv he
  obtain ⟨s1, s2, s3, s4, s5, s6⟩ := sk.2.1 _ r1.1 r1.2
  unfold zsdL
  split
  · exact ⟨r1, r2, Or.inl rfl, s2⟩
  · exact ⟨s1, by rw [s5, r2], Or.inr rfl, s2⟩
theorem zTH_on {x : Int} : zTH ((x, true) :: T) = zon (zTH T) x := by
  funext e
  show decide (zto ((x, true) :: T) e = 1) = (decide (e = x) || decide (zto T e = 1))
  by_cases q : e = x
  · rw [q, decide_eq_true (by exact zto_e)]
    simp
  · rw [zto_ne (x := (x, true)) q, decide_eq_false q]
    rfl
theorem zTH_of {x : Int} (h : zto T x = 0) : zTH ((x, false) :: T) = zTH T := by
  funext e
  show decide (zto ((x, false) :: T) e = 1) = decide (zto T e = 1)
  by_cases q : e = x
  · rw [q, h, show zto ((x, false) :: T) x = 2 from zto_e]
    rfl
  · rw [zto_ne (x := (x, false)) q]
theorem zin_k {k f : Int} {ac : Int → Int} (h : zin ac r L f = true) : zin ac r (k :: L) f = true := by
  show (decide (f = ac k / 4) || zin ac r L f) = true
  rw [h]
  simp
theorem zTr_mono {F : Int} {ac ed : Int → Int} {H H' : Int → Bool} (hm : ∀ x, H x = true → H' x = true) : ∀ {L : List Int}, zTr F ac ed H r L → zTr F ac ed H' r L
  | [], _ => trivial
  | _ :: _, h => ⟨⟨h.1.1, hm _ h.1.2.1, h.1.2.2⟩, zTr_mono hm h.2⟩
/-- the tree that is told, closed under its HINGES, a forest -/
theorem zTI_all (hv : zV p) : ∀ {T : zTT}, zTI p T → zTr (pF p) (pa p) (pe p) (zTH T) (pr p) (zLl p T) ∧ (∀ k, 0 ≤ k → k < 4 * pF p → zto T (pe p k) = 1 → zin (pa p) (pr p) (zLl p T) (k / 4) = true ∧ zin (pa p) (pr p) (zLl p T) (pa p k / 4) = true) ∧ zFo (pF p) (pa p) (pe p) (zTH T) ∧ zN (2 * pF p).toNat (fun e => !decide (zto T e = 0)) = T.length
  | [], _ => by
    have sk := zV_sk hv
    refine ⟨trivial, fun k k0 k1 h => ?_, zFo_0 (fun x => rfl), zN_nil _ (fun i _ _ => rfl)⟩
    have h : (0 : Int) = 1 := h
    cases h
  | x :: T, ht => by
    have sk := zV_sk hv
    obtain ⟨i1, i2, i3, i4⟩ := zTI_all hv ht.2
    obtain ⟨⟨t1, t2, t3, t4⟩, t5⟩ := ht
    obtain ⟨e, b⟩ := x
    have t1 : 0 ≤ e ∧ e < 2 * pF p := t1
    have t2 : zto T e = 0 := t2
    have t3 : zin (pa p) (pr p) (zLl p T) (zsdL p (zLl p T) e / 4) = true := t3
    have t4 : zin (pa p) (pr p) (zLl p T) (pa p (zsdL p (zLl p T) e) / 4) = false := t4
    obtain ⟨d1, d2, d3, d4⟩ := zsdL_r (L := zLl p T) hv t1
    obtain ⟨s1, s2, s3, s4, s5, s6⟩ := sk.2.1 _ d1.1 d1.2
    have ln : zN (2 * pF p).toNat (fun f => !decide (zto ((e, b) :: T) f = 0)) = ((e, b) :: T).length := by
      have e1 : (fun f => !decide (zto ((e, b) :: T) f = 0)) = (fun f => decide (f = e) || (fun f => !decide (zto T f = 0)) f) := by
        funext f
        by_cases q : f = e
        · rw [q, show zto ((e, b) :: T) e = (if b = true then 1 else 2) from zto_e]
          cases b <;> simp
        · rw [zto_ne (x := (e, b)) q, decide_eq_false q]
          rfl
      rw [e1, zN_on (2 * pF p).toNat t1.1 (by show (!decide (zto T e = 0)) = false; rw [t2]; rfl), i4, if_pos (by omega), List.length_cons]
      omega
    cases b with
    | false =>
      have eL : zLl p ((e, false) :: T) = zLl p T := if_neg Bool.false_ne_true
      rw [eL, zTH_of t2]
      refine ⟨i1, fun k k0 k1 hk => i2 k k0 k1 ?_, i3, ln⟩
      by_cases q : pe p k = e
      · rw [q, show zto ((e, false) :: T) e = 2 from zto_e] at hk
        cases hk
      · rw [zto_ne (x := (e, false)) q] at hk
        exact hk
    | true =>
      have eL : zLl p ((e, true) :: T) = zsdL p (zLl p T) e :: zLl p T := if_pos rfl
      rw [eL, zTH_on]
      generalize hk : zsdL p (zLl p T) e = k at *
      have nj : ¬ zJ (pF p) (pa p) (pe p) (zTH T) (k / 4) (pa p k / 4) := fun j => by
        have := j (fun f => zin (pa p) (pr p) (zLl p T) f = true) t3 (fun k' k0 k1 hh _ => (i2 k' k0 k1 (of_decide_eq_true hh)).2)
        rw [this] at t4
        cases t4
      refine ⟨⟨⟨d1, by rw [d2, zon_e], t3, t4⟩, zTr_mono (fun x hx => zon_m hx) i1⟩, fun k' k0 k1 hk' => ?_, ?_, ln⟩
      · by_cases q : pe p k' = e
        · have n1 : zin (pa p) (pr p) (k :: zLl p T) (pa p k / 4) = true := by
            show (decide (pa p k / 4 = pa p k / 4) || _) = true
            rw [decide_eq_true rfl]
            rfl
          rcases zsame sk ⟨k0, k1⟩ d1 (by rw [q, d2]) with w | w
          · rw [w]
            exact ⟨zin_k t3, n1⟩
          · rw [w, s2]
            exact ⟨n1, zin_k t3⟩
        · rw [zto_ne (x := (e, true)) q] at hk'
          obtain ⟨a1, a2⟩ := i2 k' k0 k1 hk'
          exact ⟨zin_k a1, zin_k a2⟩
      · have := zFo_on sk d1 i3 nj
        rw [d2] at this
        exact this
theorem zTI_len (hv : zV p) (ht : zTI p T) : (T.length : Int) ≤ 2 * pF p ∧ ∀ e, (0 ≤ e ∧ e < 2 * pF p) → zto T e = 0 → (T.length : Int) < 2 * pF p := by
  have F0 : 0 ≤ pF p ∧ pF p ≤ 30 := (zV_sk hv).1
  have i := (zTI_all hv ht).2.2.2
  have r1 := (zN_r (P := fun e => !decide (zto T e = 0)) (2 * pF p).toNat).2
  refine ⟨by omega, fun e he h0 => ?_⟩
  have := zN_lt (P := fun e => !decide (zto T e = 0)) (Q := fun _ => true) (2 * pF p).toNat (fun _ _ _ _ => rfl) (j := e) (by omega) (by show (!decide (zto T e = 0)) = false; rw [h0]; rfl) rfl
  have := (zN_r (P := fun _ => true) (2 * pF p).toNat).2
  omega
theorem zTI_c {b' : Bool} (hv : zV p) (ht : zTI p T) (he : 0 ≤ e ∧ e < 2 * pF p) (hf : zfrT p T e = true) : zTI p ((e, b') :: T) ∧ zto T e = 0 := by
  unfold zfrT at hf
  rw [Bool.and_eq_true] at hf
  have h0 := of_decide_eq_true hf.1
  obtain ⟨d1, d2, d3, d4⟩ := zsdL_r (L := zLl p T) hv he
  refine ⟨⟨⟨he, h0, ?_, ?_⟩, ht⟩, h0⟩
  · show zin (pa p) (pr p) (zLl p T) (zsdL p (zLl p T) e / 4) = true
    unfold zsdL
    cases h1 : zin (pa p) (pr p) (zLl p T) (pq p e / 4) with
    | true => rw [if_pos rfl]; exact h1
    | false =>
      rw [if_neg (by decide)]
      have := hf.2
      rw [h1] at this
      cases h2 : zin (pa p) (pr p) (zLl p T) (pa p (pq p e) / 4) with
      | true => rfl
      | false => rw [h2] at this; cases this
  · show zin (pa p) (pr p) (zLl p T) (pa p (zsdL p (zLl p T) e) / 4) = false
    unfold zsdL
    cases h1 : zin (pa p) (pr p) (zLl p T) (pq p e / 4) with
    | true =>
      rw [if_pos rfl]
      have := hf.2
      rw [h1] at this
      cases h2 : zin (pa p) (pr p) (zLl p T) (pa p (pq p e) / 4) with
      | false => rfl
      | true => rw [h2] at this; cases this
    | false =>
      rw [if_neg (by decide), d4]
      exact h1
theorem zbk_TI : ∀ {T : zTT}, zTI p T → zTI p (zbk T)
  | [], _ => trivial
  | (e, true) :: T, ht => ht
  | (e, false) :: T, ht => by
    show zTI p (zbk T)
    exact zbk_TI ht.2
theorem zle_f (h : zle' p T < 2 * pF p) (hF : 0 ≤ pF p) : 0 ≤ zle' p T ∧ zfrT p T (zle' p T) = true := by
  have h0 := (zr_le (P := fun e => !zfrT p T e) (L := 2 * pF p) (p := 0) (by omega)).1
  have := zr_end (P := fun e => !zfrT p T e) (L := 2 * pF p) (p := 0) (by omega) h
  refine ⟨h0, ?_⟩
  have this : (!zfrT p T (zle' p T)) = false := this
  cases hz : zfrT p T (zle' p T) with
  | true => rfl
  | false => rw [hz] at this; cases this
theorem ztk_iff (hr : ∀ f, zin (pa p) (pr p) L f = true → 0 ≤ f ∧ f < 30) : ztk p L x y = true ↔ ∃ f, zin (pa p) (pr p) L f = true ∧ (zpo (pa p) L f).1 = x ∧ (zpo (pa p) L f).2.1 = y := by
  unfold ztk
  rw [decide_eq_true_eq]
  constructor
  · intro h
    obtain ⟨j, j0, j1, hj⟩ := zN_pos h
    unfold zatL at hj
    simp only [Bool.and_eq_true, decide_eq_true_eq] at hj
    exact ⟨j, hj.1.1, hj.1.2, hj.2⟩
  · rintro ⟨f, f1, f2, f3⟩
    have rf := hr f f1
    have hf : zatL p L x y f = true := by
      unfold zatL
      rw [f1, f2, f3]
      simp
    have := (zN_r (P := zatL p L x y) 30).1
    rcases Int.lt_or_le 0 (zN 30 (zatL p L x y)) with w | w
    · exact w
    · have := zN_zero (P := zatL p L x y) (n := 30) (by omega) (j := f) (by omega)
      rw [hf] at this
      cases this
end SE

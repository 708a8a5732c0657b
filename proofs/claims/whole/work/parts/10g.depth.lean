/-! trees by depth -/
def zdS (ac : Int → Int) (r : Int) (rec : Int → List Int → List Int) (f : Int) (L : List Int) : Nat → List Int
  | 0 => L
  | t + 1 => if zin ac r (zdS ac r rec f L t) (ac (4 * f + t) / 4) = true then zdS ac r rec f L t else rec (ac (4 * f + t) / 4) ((4 * f + t) :: zdS ac r rec f L t)
def zdF (ac : Int → Int) (r : Int) : Nat → Int → List Int → List Int
  | 0, _, L => L
  | n + 1, f, L => zdS ac r (zdF ac r n) f L 4
section TD
variable {a b k v r f : Int} {p : zP} {Q : Int → zP} {L : List Int} {ac ed es : Int → Int} {F : Int} {μ μ0 : z_Mem} {d : Nat} {K : Int → z_Mem → Prop} {Kn : z_Mem → Prop}
theorem zin_c {k : Int} (h : zin ac r L f = true) : zin ac r (k :: L) f = true := by
  show (decide (f = ac k / 4) || zin ac r L f) = true
  rw [h]
  simp
theorem zin_h {k : Int} : zin ac r (k :: L) (ac k / 4) = true := by
  show (decide (ac k / 4 = ac k / 4) || zin ac r L (ac k / 4)) = true
  rw [decide_eq_true rfl]
  rfl
theorem zdF_ok (sk : zSK F ac ed es) (hr : 0 ≤ r ∧ r < F) : ∀ (n : Nat) (f : Int) (L : List Int), zTr F ac ed zAll r L → zin ac r L f = true → F ≤ n + L.length → (zTr F ac ed zAll r (zdF ac r n f L) ∧ (∀ x, zin ac r L x = true → zin ac r (zdF ac r n f L) x = true) ∧ (L.length : Int) ≤ (zdF ac r n f L).length) ∧ ∀ t : Nat, t ≤ 4 → zTr F ac ed zAll r (zdS ac r (zdF ac r (n - 1)) f L t) ∧ (∀ x, zin ac r L x = true → zin ac r (zdS ac r (zdF ac r (n - 1)) f L t) x = true) ∧ (L.length : Int) ≤ (zdS ac r (zdF ac r (n - 1)) f L t).length := by
  intro n
  induction n with
  | zero =>
    intro f L ht hi hn
    have := zTr_le sk hr ht
    omega
  | succ n ih =>
    intro f L ht hi hn
    have fr := zTr_in sk hr ht hi
    have key : ∀ t : Nat, t ≤ 4 → zTr F ac ed zAll r (zdS ac r (zdF ac r n) f L t) ∧ (∀ x, zin ac r L x = true → zin ac r (zdS ac r (zdF ac r n) f L t) x = true) ∧ (L.length : Int) ≤ (zdS ac r (zdF ac r n) f L t).length := by
      intro t
      induction t with
      | zero => exact fun _ => ⟨ht, fun _ h => h, Int.le_refl _⟩
      | succ t iht =>
        intro ht4
        obtain ⟨i1, i2, i3⟩ := iht (by omega)
        have e : zdS ac r (zdF ac r n) f L (t + 1) = if zin ac r (zdS ac r (zdF ac r n) f L t) (ac (4 * f + t) / 4) = true then zdS ac r (zdF ac r n) f L t else zdF ac r n (ac (4 * f + t) / 4) ((4 * f + t) :: zdS ac r (zdF ac r n) f L t) := rfl
        rw [e]
        by_cases q : zin ac r (zdS ac r (zdF ac r n) f L t) (ac (4 * f + t) / 4) = true
        · rw [if_pos q]
          exact ⟨i1, i2, i3⟩
        · rw [if_neg q]
          have q' : zin ac r (zdS ac r (zdF ac r n) f L t) (ac (4 * f + t) / 4) = false := by
            cases hz : zin ac r (zdS ac r (zdF ac r n) f L t) (ac (4 * f + t) / 4) with
            | false => rfl
            | true => exact absurd hz q
          have ht' : zTr F ac ed zAll r ((4 * f + t) :: zdS ac r (zdF ac r n) f L t) := ⟨⟨by omega, rfl, by rw [show (4 * f + (t : Int)) / 4 = f by omega]; exact i2 f hi, q'⟩, i1⟩
          obtain ⟨⟨j1, j2, j3⟩, _⟩ := ih (ac (4 * f + t) / 4) _ ht' zin_h (by rw [List.length_cons]; omega)
          rw [List.length_cons] at j3
          exact ⟨j1, fun x hx => j2 x (zin_c (i2 x hx)), by omega⟩
    exact ⟨key 4 (Nat.le_refl _), key⟩
theorem e_deep (hv : zV p) (hr : 0 ≤ r ∧ r < pF p) (hc : zCK μ (pS p) (pn p)) : ∀ (n : Nat) (f : Int) (L : List Int) (m : z_Mem) (many T C : Int), zTr (pF p) (pa p) (pe p) zAll r L → zin (pa p) r L f = true → pF p ≤ n + L.length → zTC μ m p r L → m 17 (many - 1) = f → 1 ≤ many → many ≤ L.length + 1 → m 20 f = 0 → (∀ g, 0 ≤ g → g < pF p → zin (pa p) r L g = false → m 20 g = 0) → 0 ≤ T → 0 ≤ C → T + 5 + 5 * (29 - L.length) + C ≤ 150 → (∀ m', zTC μ m' p r (zdF (pa p) r n f L) → (∀ j, j < many - 1 → m' 17 j = m 17 j) → (∀ g, zin (pa p) r L g = true → g ≠ f → m' 20 g = m 20 g) → (∀ g, 0 ≤ g → g < pF p → zin (pa p) r (zdF (pa p) r n f L) g = false → m' 20 g = 0) → z_ri m_X9_growByDepth 9 [some (2, 6), some (2, 21), some (0, many - 1), some (0, T + 5 + 5 * ((zdF (pa p) r n f L).length - L.length)), none] m' (d + 3) K) → z_ri m_X9_growByDepth 9 [some (2, 6), some (2, 21), some (0, many), some (0, T), none] m (d + 3) K := by
  have sk := zV_sk hv
  have F0 : pF p ≤ 30 := sk.1.2
  intro n
  induction n with
  | zero =>
    intro f L m many T C ht hi hn
    have : (L.length : Int) + 1 ≤ pF p := zTr_le sk hr ht
    omega
  | succ n ih =>
    intro f L m many T C ht hi hn hm h17 hm1 hm2 h20 hun T0 C0 hT hk
    have fr : 0 ≤ f ∧ f < pF p := zTr_in sk hr ht hi
    obtain ⟨_, okS⟩ := zdF_ok sk hr (n + 1) f L ht hi hn
    have okS' : ∀ t : Nat, t ≤ 4 → zTr (pF p) (pa p) (pe p) zAll r (zdS (pa p) r (zdF (pa p) r n) f L t) ∧ (∀ x, zin (pa p) r L x = true → zin (pa p) r (zdS (pa p) r (zdF (pa p) r n) f L t) x = true) ∧ (L.length : Int) ≤ (zdS (pa p) r (zdF (pa p) r n) f L t).length := okS
    have inner : ∀ s : Int, 0 ≤ s → s ≤ 4 → ∀ m2 : z_Mem, zTC μ m2 p r (zdS (pa p) r (zdF (pa p) r n) f L s.toNat) → m2 17 (many - 1) = f → (∀ j, j < many - 1 → m2 17 j = m 17 j) → m2 20 f = s → (∀ g, zin (pa p) r L g = true → g ≠ f → m2 20 g = m 20 g) → (∀ g, 0 ≤ g → g < pF p → zin (pa p) r (zdS (pa p) r (zdF (pa p) r n) f L s.toNat) g = false → m2 20 g = 0) → z_ri m_X9_growByDepth 9 [some (2, 6), some (2, 21), some (0, many), some (0, T + s + 5 * ((zdS (pa p) r (zdF (pa p) r n) f L s.toNat).length - L.length)), none] m2 (d + 3) K := by
      refine z_up (fun s s0 s4 ih2 m2 hm2' q17 qlo q20 qo qun => ?_)
      obtain ⟨b1, b2, b3⟩ := okS' s.toNat (by omega)
      have ln : ((zdS (pa p) r (zdF (pa p) r n) f L s.toNat).length : Int) + 1 ≤ pF p := zTr_le sk hr b1
      have lL : (L.length : Int) + 1 ≤ pF p := zTr_le sk hr ht
      refine V_X9_growByDepth_9 ?_
      rw [q17, q20]
      refine ⟨fun q => by omega, fun q => ⟨fun q3 => by omega, fun q4 => ⟨⟨by omega, by omega⟩, by omega, by omega, fun q5 => ⟨⟨by omega, by omega⟩, by omega, ⟨by omega, by omega⟩, ?_⟩, fun q6 => ⟨⟨by omega, by omega⟩, ⟨by omega, by omega⟩, ?_⟩⟩⟩⟩
      · have et : zdS (pa p) r (zdF (pa p) r n) f L (s + 1).toNat = if zin (pa p) r (zdS (pa p) r (zdF (pa p) r n) f L s.toNat) (pa p (4 * f + s) / 4) = true then zdS (pa p) r (zdF (pa p) r n) f L s.toNat else zdF (pa p) r n (pa p (4 * f + s) / 4) ((4 * f + s) :: zdS (pa p) r (zdF (pa p) r n) f L s.toNat) := by
          rw [show (s + 1).toNat = s.toNat + 1 by omega]
          show (if zin (pa p) r _ (pa p (4 * f + ((s.toNat : Nat) : Int)) / 4) = true then _ else zdF (pa p) r n (pa p (4 * f + ((s.toNat : Nat) : Int)) / 4) ((4 * f + ((s.toNat : Nat) : Int)) :: _)) = _
          rw [show ((s.toNat : Nat) : Int) = s by omega]
        refine e_growBehind hv hr hc b1 hm2' (by omega) (by rw [show (4 * f + s) / 4 = f by omega]; exact b2 f hi) ⟨by omega, by omega⟩ (fun hz => ?_) (fun hz m3 t3 e17 e20 => ?_)
        · rw [if_pos hz] at et
          rw [q20]
          have := ih2 (by omega) (z_st m2 20 f (s + 1)) (by
            rw [et]
            exact ⟨fun x i a c => by rw [z_st_ne (by omega)]; exact hm2'.1 x i a c, zRwC_fr hm2'.2.1 (fun x i _ => z_st_ne (by omega)), fun g g0 g1 => by rw [z_st_ne (by decide)]; exact hm2'.2.2 g g0 g1⟩) (by rw [z_st_ne (by decide)]; exact q17) (fun j hj => by rw [z_st_ne (by decide)]; exact qlo j hj) z_st_eq (fun g hg hne => by rw [z_st_ni hne]; exact qo g hg hne) (fun g g0 g1 hg => by
              rw [et] at hg
              by_cases w : g = f
              · rw [w, b2 f hi] at hg
                cases hg
              · rw [z_st_ni w]
                exact qun g g0 g1 hg)
          rw [et] at this
          refine ⟨by omega, ⟨by omega, by omega⟩, by omega, ⟨by omega, by omega⟩, ?_⟩
          rw [show T + (s + 1) + 5 * (((zdS (pa p) r (zdF (pa p) r n) f L s.toNat).length : Int) - L.length) = T + s + 5 * (((zdS (pa p) r (zdF (pa p) r n) f L s.toNat).length : Int) - L.length) + 1 by omega] at this
          exact this
        · rw [if_neg (by rw [hz]; decide)] at et
          rw [e20, q20]
          refine ⟨by omega, ⟨by omega, by omega⟩, by omega, ⟨by omega, by omega⟩, ?_⟩
          have kr : 0 ≤ 4 * f + s ∧ 4 * f + s < 4 * pF p := by omega
          obtain ⟨s1, s2, s3, s4', s5, s6⟩ := sk.2.1 _ kr.1 kr.2
          have ht' : zTr (pF p) (pa p) (pe p) zAll r ((4 * f + s) :: zdS (pa p) r (zdF (pa p) r n) f L s.toNat) := ⟨⟨kr, rfl, by rw [show (4 * f + s) / 4 = f by omega]; exact b2 f hi, hz⟩, b1⟩
          have gf : pa p (4 * f + s) / 4 ≠ f := fun w => by rw [w, b2 f hi] at hz; cases hz
          refine ih (pa p (4 * f + s) / 4) _ (z_st m3 20 f (s + 1)) (many + 1) _ (C + (4 - s)) ht' zin_h (by rw [List.length_cons]; omega) ⟨fun x i a c => by rw [z_st_ne (by omega)]; exact t3.1 x i a c, zRwC_fr t3.2.1 (fun x i _ => z_st_ne (by omega)), fun g g0 g1 => by rw [z_st_ne (by decide)]; exact t3.2.2 g g0 g1⟩ ?_ (by omega) (by rw [List.length_cons]; omega) ?_ (fun g g0 g1 hg => ?_) (by omega) (by omega) (by rw [List.length_cons]; omega) (fun m4 t4 k1 k2 k3 => ?_)
          · rw [z_st_ne (by decide), e17]
            exact if_pos (by omega)
          · rw [z_st_ni gf, e20]
            exact qun _ (by omega) (by omega) hz
          · have hg' : (decide (g = pa p (4 * f + s) / 4) || zin (pa p) r (zdS (pa p) r (zdF (pa p) r n) f L s.toNat) g) = false := hg
            rw [Bool.or_eq_false_iff] at hg'
            by_cases w : g = f
            · rw [w, b2 f hi] at hg'
              cases hg'.2
            · rw [z_st_ni w, e20]
              exact qun g g0 g1 hg'.2
          · have e17j : ∀ j, j < many → z_st m3 20 f (s + 1) 17 j = m2 17 j := fun j hj => by
              rw [z_st_ne (by decide), e17]
              exact if_neg (by omega)
            have := ih2 (by omega) m4 (by rw [et]; exact t4) (by rw [k1 (many - 1) (by omega), e17j _ (by omega)]; exact q17) (fun j hj => by rw [k1 j (by omega), e17j j (by omega)]; exact qlo j hj) (by rw [k2 f (zin_c (b2 f hi)) (fun w => gf w.symm), z_st_eq]) (fun g hg hne => by
              have gg : g ≠ pa p (4 * f + s) / 4 := fun w => by rw [← w, b2 g hg] at hz; cases hz
              rw [k2 g (zin_c (b2 g hg)) gg, z_st_ni hne, e20]
              exact qo g hg hne) (fun g g0 g1 hg => k3 g g0 g1 (by rw [et] at hg; exact hg))
            rw [et] at this
            rw [List.length_cons, show (many + 1 - 1 : Int) = many by omega]
            rw [show T + (s + 1) + 5 * (((zdF (pa p) r n (pa p (4 * f + s) / 4) ((4 * f + s) :: zdS (pa p) r (zdF (pa p) r n) f L s.toNat)).length : Int) - L.length) = T + s + 5 * (((zdS (pa p) r (zdF (pa p) r n) f L s.toNat).length : Int) - L.length) + 1 + 5 + 5 * (((zdF (pa p) r n (pa p (4 * f + s) / 4) ((4 * f + s) :: zdS (pa p) r (zdF (pa p) r n) f L s.toNat)).length : Int) - (((zdS (pa p) r (zdF (pa p) r n) f L s.toNat).length + 1 : Nat) : Int)) by omega] at this
            exact this
      · obtain rfl : s = 4 := by omega
        have := hk m2 hm2' qlo qo qun
        have ed : zdF (pa p) r (n + 1) f L = zdS (pa p) r (zdF (pa p) r n) f L (4 : Int).toNat := rfl
        rw [ed] at this
        rw [show T + 4 + 5 * (((zdS (pa p) r (zdF (pa p) r n) f L (4 : Int).toNat).length : Int) - L.length) + 1 = T + 5 + 5 * (((zdS (pa p) r (zdF (pa p) r n) f L (4 : Int).toNat).length : Int) - L.length) by omega]
        exact this
    have := inner 0 (by omega) (by omega) m hm h17 (fun _ _ => rfl) h20 (fun _ _ _ => rfl) hun
    have e0 : zdS (pa p) r (zdF (pa p) r n) f L (0 : Int).toNat = L := rfl
    rw [e0, show T + 0 + 5 * ((L.length : Int) - L.length) = T by omega] at this
    exact this
abbrev zDt (p : zP) : List Int := zdF (pa p) (pr p) 30 (pr p) []
theorem e_byDepth (hv : zV p) (hr : 0 ≤ pr p ∧ pr p < pF p) (hc : zCK μ (pS p) (pn p)) (hj : zRwC μ 21 p) (hk : ∀ m, zTC μ m p (pr p) (zDt p) → K (zmx (pF p).toNat (zdp (pa p) (zDt p))) m) : z_ci m_X9_growByDepth [(2, 6), (2, 21)] μ (d + 3) K := by
  have sk := zV_sk hv
  have F0 : pF p ≤ 30 := sk.1.2
  refine V_X9_growByDepth (e_startTree hv hr hc hj (fun m1 t1 q1 q2 => ?_))
  refine e_deep hv hr hc 30 (pr p) [] m1 1 0 0 trivial zin_r (by show pF p ≤ ((30 : Nat) : Int) + ((0 : Nat) : Int); omega) t1 q1 (by decide) (by decide) (q2 _ hr.1 hr.2) (fun g g0 g1 _ => q2 g g0 g1) (by decide) (by decide) (by decide) (fun m' t' _ _ _ => ?_)
  have b := (zdF_ok sk hr 30 (pr p) [] trivial zin_r (by show pF p ≤ ((30 : Nat) : Int) + ((0 : Nat) : Int); omega)).1
  have ln := zTr_le sk hr b.1
  exact V_X9_growByDepth_9 ⟨fun q => e_greatest hv hc t' (hk m' t'), fun q => ⟨fun q3 => e_greatest hv hc t' (hk m' t'), fun q4 => by omega⟩⟩
end TD

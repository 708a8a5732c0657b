/-! TRADES: the class's trader -/
def zco (ac ed : Int → Int) (h : Int) : List Int → Int → Bool
  | [], _ => false
  | k :: L, f => if f = ac k / 4 then (decide (ed k = h) || zco ac ed h L (k / 4)) else zco ac ed h L f
def zTk (p : zP) (m : z_Mem) (S : Int → Bool) : Prop := (∀ i, 0 ≤ i → i < 64 → 0 ≤ m 30 i) ∧ ∀ f, S f = true → zbt (m 30 ((zY p f + 32) % 64)) ((zX p f + 32) % 64) = true
/-- S lies on the sheet -/
def zDn (p : zP) (m : z_Mem) (S : Int → Bool) : Prop := ∀ f, S f = true → (0 ≤ f ∧ f < 30) ∧ m 24 f = zX p f ∧ m 25 f = zY p f ∧ (-29 ≤ zX p f ∧ zX p f ≤ 29) ∧ (-29 ≤ zY p f ∧ zY p f ≤ 29)
section TD
variable {a b c e h k v r f s x y w : Int} {p : zP} {L : List Int} {ac ed es : Int → Int} {F : Int} {H S : Int → Bool} {μ μ0 : z_Mem} {d : Nat} {K : Int → z_Mem → Prop} {Kn : z_Mem → Prop}
theorem zco_in : ∀ {L : List Int} {f : Int}, zco ac ed h L f = true → zin ac r L f = true
  | [], f, q => by cases q
  | k :: L, f, q => by
    show (decide (f = ac k / 4) || zin ac r L f) = true
    by_cases w : f = ac k / 4
    · rw [decide_eq_true w]
      rfl
    · have q' : zco ac ed h L f = true := by rw [← q]; exact (if_neg w).symm
      rw [zco_in q']
      simp
theorem zTr_of : ∀ {L : List Int}, zTr F ac ed H r L → (∀ k ∈ L, ed k ≠ h) → zTr F ac ed (zof H h) r L
  | [], _, _ => trivial
  | k :: L, ht, hn => ⟨⟨ht.1.1, by rw [zof_ne (hn k List.mem_cons_self)]; exact ht.1.2.1, ht.1.2.2⟩, zTr_of ht.2 (fun k' hk => hn k' (List.mem_cons_of_mem _ hk))⟩
theorem zco_J (sk : zSK F ac ed es) (hf : zFo F ac ed H) : ∀ {L : List Int}, zTr F ac ed H r L → ∀ f, zin ac r L f = true → (zco ac ed h L f = true ↔ ¬ zJ F ac ed (zof H h) r f)
  | [], _, f, hi => by
    have : f = r := of_decide_eq_true hi
    subst this
    exact ⟨fun q => (by cases q), fun q => absurd zJ_r q⟩
  | k :: L, ht, f, hi => by
    obtain ⟨⟨h1, h2, h3, h4⟩, h5⟩ := ht
    by_cases q : f = ac k / 4
    · subst q
      have e : zco ac ed h (k :: L) (ac k / 4) = (decide (ed k = h) || zco ac ed h L (k / 4)) := if_pos rfl
      rw [e]
      by_cases w : ed k = h
      · rw [decide_eq_true w]
        refine ⟨fun _ j => ?_, fun _ => rfl⟩
        have no : ∀ k' ∈ L, ed k' ≠ h := fun k' hk' x => by
          have r' := zTr_mem h5 k' hk'
          rcases zsame sk h1 r'.1 (w.trans x.symm) with y | y
          · rw [y, zin_mem hk'] at h4
            cases h4
          · rw [y] at h4
            rw [(sk.2.1 k' r'.1.1 r'.1.2).2.1] at h4
            have : zin ac r L (k' / 4) = true := by
              obtain ⟨n, hn, hg⟩ := List.getElem_of_mem hk'
              have t1 := zTr_drop n L h5
              rw [List.drop_eq_getElem_cons hn, hg] at t1
              have t2 := t1.1.2.2.1
              obtain ⟨j, j0, j1, j2⟩ := zin_ex t2
              rw [← j2, ← zfj_drop (n + 1) L j j1]
              exact zin_j
            rw [this] at h4
            cases h4
        have t' := zTr_of (h := h) h5 no
        have jk := zTr_J t' h3
        have := hf k h1.1 h1.2 h2
        rw [w] at this
        exact this (zJ_tr (zJ_sy sk jk) j)
      · rw [decide_eq_false w, Bool.false_or, zco_J sk hf h5 (k / 4) h3]
        have st : zJ F ac ed (zof H h) (k / 4) (ac k / 4) := zJ_st h1 (by rw [zof_ne w]; exact h2) zJ_r
        exact ⟨fun x y => x (zJ_tr y (zJ_sy sk st)), fun x y => x (zJ_tr y st)⟩
    · have e : zco ac ed h (k :: L) f = zco ac ed h L f := if_neg q
      rw [e]
      refine zco_J sk hf h5 f ?_
      have hi' : (decide (f = ac k / 4) || zin ac r L f) = true := hi
      rw [decide_eq_false q] at hi'
      exact hi'
theorem zco_off (hv : zV p) (hw : zWo p) : zco (pa p) (pe p) h (pB p) f = zoff p h f := by
  have sk := zV_sk hv
  have hr := zr_of hw hv
  have ht := zBF_tr (H := pH p) sk hr
  have key : zco (pa p) (pe p) h (pB p) f = true ↔ zoff p h f = true := by
    by_cases rf : 0 ≤ f ∧ f < pF p
    · have pl := zPl_w hw hv rf
      rw [zPl_e hw.1] at pl
      rw [zco_J sk hv.2.2.2.1 ht f pl, (zoff_iff hv hw rf).1]
    · exact ⟨fun q => absurd (zTr_in sk hr ht (zco_in (r := pr p) q)) rf, fun q => absurd (zoff_r hv q) rf⟩
  cases h1 : zco (pa p) (pe p) h (pB p) f <;> cases h2 : zoff p h f
  · rfl
  · rw [key.mpr h2] at h1
    cases h1
  · rw [key.mp h1] at h2
    cases h2
  · rfl
theorem e_cutOff (hv : zV p) (hw : zWo p) (hc : zCn' μ p) (hk : ∀ v, 0 ≤ v → (∀ f, 0 ≤ f → zbt v f = zoff p h f) → K v μ) : z_ci m_X10_cutOff [(2, 29), (0, h)] μ d K := by
  have sk := zV_sk hv
  have F0 : 0 ≤ pF p ∧ pF p ≤ 30 := sk.1
  have hr := zr_of hw hv
  have G : zGc μ (pF p) (pa p) (pe p) (pq p) := zCK_G hc.1
  have ht := zBF_tr (H := pH p) sk hr
  have lb := zTr_le sk hr ht
  obtain ⟨q1, q2, q3, q4, q5⟩ : zPS μ 23 (pa p) (pr p) (pB p) := by
    rcases hc.2.2 with ⟨x, _⟩ | ⟨_, x⟩
    · have := hw.1
      omega
    · exact x
  have off := fun f => zco_off (h := h) (f := f) hv hw
  have ht' : zTr (pF p) (pa p) (pe p) (pH p) (pr p) (pB p) := ht
  have lb' : ((pB p).length : Int) + 1 ≤ pF p := lb
  generalize hB : pB p = B at q1 q2 q3 q4 q5 off ht' lb'
  have loop : ∀ (n : Nat) (v : Int), n ≤ B.length → 0 ≤ v → (∀ f, 0 ≤ f → zbt v f = zco (pa p) (pe p) h (B.drop n) f) → z_ri m_X10_cutOff 4 [some (2, 29), some (0, h), some (0, v), some (0, (B.drop n).length + 1), none, none] μ d K := by
    intro n
    induction n with
    | zero =>
      intro v hn v0 vb
      rw [List.drop_zero] at vb ⊢
      refine V_X10_cutOff_4 ⟨fun q => hk v v0 (fun f f0 => by rw [vb f f0, off]), fun q => by omega⟩
    | succ n ih =>
      intro v hn v0 vb
      have eD : B.drop n = B[n] :: B.drop (n + 1) := List.drop_eq_getElem_cons (by omega)
      have hln : ((B.drop n).length : Int) = (B.drop (n + 1)).length + 1 := by rw [eD, List.length_cons]; omega
      have lle : (B.drop n).length ≤ B.length := by rw [List.length_drop]; omega
      have t1 := zTr_drop n B ht'
      rw [eD] at t1
      obtain ⟨⟨c1, c2, c3, c4⟩, t2⟩ := t1
      have kin : B[n] ∈ B := List.getElem_mem _
      generalize hkk : B[n] = k at *
      obtain ⟨s1, s2, s3, s4, s5, s6⟩ := sk.2.1 k c1.1 c1.2
      have fj : μ 27 ((B.drop (n + 1)).length + 1) = pa p k / 4 := by
        rw [show μ 27 = μ (23 + 4) from rfl, q3 _ (by omega) (by omega), zfj_drop n B _ (by omega), eD]
        exact if_pos rfl
      have fk : μ 28 (pa p k / 4) = k := q4.2 k kin
      have fe : μ 12 k = pe p k := (G.2.2.1 k c1.1 c1.2).2
      have nx := ih
      rw [hln] at nx
      have e1 : zco (pa p) (pe p) h (B.drop n) (pa p k / 4) = (decide (pe p k = h) || zco (pa p) (pe p) h (B.drop (n + 1)) (k / 4)) := by rw [eD]; exact if_pos rfl
      have e2 : ∀ f, f ≠ pa p k / 4 → zco (pa p) (pe p) h (B.drop n) f = zco (pa p) (pe p) h (B.drop (n + 1)) f := fun f hf => by rw [eD]; exact if_neg hf
      have e3 : zco (pa p) (pe p) h (B.drop (n + 1)) (pa p k / 4) = false := by
        cases hz : zco (pa p) (pe p) h (B.drop (n + 1)) (pa p k / 4) with
        | false => rfl
        | true =>
          rw [zco_in (r := pr p) hz] at c4
          cases c4
      have put : (decide (pe p k = h) || zco (pa p) (pe p) h (B.drop (n + 1)) (k / 4)) = true → ∀ f, 0 ≤ f → zbt (zor v (pa p k / 4)) f = zco (pa p) (pe p) h (B.drop n) f := fun hp f f0 => by
        rw [zbt_or (by omega) f0, vb f f0]
        by_cases w : f = pa p k / 4
        · rw [w, e1, hp, decide_eq_true rfl]
          simp
        · rw [e2 f w, decide_eq_false w]
          simp
      refine V_X10_cutOff_4 ⟨fun q => by omega, fun q => ?_⟩
      rw [fj, fk, fe]
      refine ⟨(by first | omega | exact ⟨by omega, by omega⟩), (by first | omega | exact ⟨by omega, by omega⟩), fun w => by omega, fun _ => ⟨(by first | omega | exact ⟨by omega, by omega⟩), fun w => ⟨(by first | omega | exact ⟨by omega, by omega⟩), ⟨v0, by rw [zpw']; exact Int.natCast_nonneg _⟩, (by first | omega | exact ⟨by omega, by omega⟩), ?_⟩, fun w => ⟨(by first | omega | exact ⟨by omega, by omega⟩), v0, fun z => ⟨(by first | omega | exact ⟨by omega, by omega⟩), ?_⟩, fun z => ⟨(by first | omega | exact ⟨by omega, by omega⟩), ⟨v0, by rw [zpw']; exact Int.natCast_nonneg _⟩, (by first | omega | exact ⟨by omega, by omega⟩), ?_⟩⟩⟩⟩
      · exact nx (zor v (pa p k / 4)) (by omega) zor_n (put (by rw [decide_eq_true w]; rfl))
      · refine nx v (by omega) v0 (fun f f0 => ?_)
        rw [zbt_z v0, vb _ (by omega)] at z
        rw [vb f f0]
        by_cases x : f = pa p k / 4
        · rw [x, e1, e3, z, decide_eq_false w]
          rfl
        · rw [e2 f x]
      · rw [zbt_z v0, vb _ (by omega)] at z
        refine nx (zor v (pa p k / 4)) (by omega) zor_n (put ?_)
        cases hz : zco (pa p) (pe p) h (B.drop (n + 1)) (k / 4) with
        | false => exact absurd hz z
        | true => simp
  have := loop B.length 0 (Nat.le_refl _) (by omega) (fun f _ => by rw [List.drop_length, zbt_0]; rfl)
  rw [List.drop_length] at this
  have f0 : μ 27 0 = pr p := by
    rw [show μ 27 = μ (23 + 4) from rfl, q3 0 (by omega) (by omega), zfj_drop B.length B 0 (by omega), List.drop_length]
    rfl
  have f1 : μ 28 (pr p) = -1 := q4.1
  refine V_X10_cutOff (V_X10_cutOff_4 ⟨fun q => by omega, fun q => ?_⟩)
  rw [f0, f1]
  exact ⟨(by first | omega | exact ⟨by omega, by omega⟩), (by first | omega | exact ⟨by omega, by omega⟩), fun _ => ⟨(by first | omega | exact ⟨by omega, by omega⟩), this⟩, fun w => absurd rfl w⟩
theorem zS_up {f : Int → Int} {i : Int} (h : 0 ≤ i) : zS (i + 1).toNat f = zS i.toNat f + f i := by
  rw [show (i + 1).toNat = i.toNat + 1 by omega, zS_s, show ((i.toNat : Nat) : Int) = i by omega]
theorem e_howManyAt (v0 : 0 ≤ v) (vb : ∀ f, 0 ≤ f → zbt v f = S f) (hD : zDn p μ S) (ht : zTk p μ S) (hx : (-10000 ≤ x ∧ x ≤ 10000) ∧ -10000 ≤ y ∧ y ≤ 10000) (hk : K (zN 30 (fun f => S f && decide (zX p f = x) && decide (zY p f = y))) μ) : z_ci m_X10_howManyAt [(2, 29), (0, v), (0, x), (0, y)] μ d K := by
  have t0 := ht.1 ((y + 32) % 64) (by omega) (by omega)
  refine V_X10_howManyAt ⟨(by first | omega | exact ⟨by omega, by omega⟩), (by first | omega | exact ⟨by omega, by omega⟩), (by first | omega | exact ⟨by omega, by omega⟩), (by first | omega | exact ⟨by omega, by omega⟩), t0, ⟨zdv_n t0, by omega⟩, fun q => ?_, fun q => ?_⟩
  · have key : ∀ i, 0 ≤ i → i ≤ 30 → z_ri m_X10_howManyAt 35 [some (2, 29), some (0, v), some (0, x), some (0, y), some (0, zN i.toNat (fun f => S f && decide (zX p f = x) && decide (zY p f = y))), some (0, i)] μ d K := by
      refine z_up (fun i i0 i1 ih => V_X10_howManyAt_35 ⟨fun w => ?_, fun w => ⟨(by first | omega | exact ⟨by omega, by omega⟩), v0, ?_⟩⟩)
      · obtain rfl : i = 30 := by omega
        exact hk
      · have nx := ih w
        rw [zN_up i0] at nx
        have zr := zN_r (P := fun f => S f && decide (zX p f = x) && decide (zY p f = y)) i.toNat
        rw [zbt_z v0, vb i i0]
        cases hz : S i with
        | false =>
          refine ⟨fun _ => ⟨(by first | omega | exact ⟨by omega, by omega⟩), ?_⟩, fun z => absurd rfl z⟩
          rw [hz] at nx
          have e : ∀ u : Int, u + zi (false && decide (zX p i = x) && decide (zY p i = y)) = u := fun u => by show u + 0 = u; omega
          rw [e] at nx
          exact nx
        | true =>
          obtain ⟨d1, d2, d3, d4⟩ := hD i hz
          rw [hz] at nx
          rw [d2, d3]
          refine ⟨fun z => absurd z (by decide), fun _ => ⟨(by first | omega | exact ⟨by omega, by omega⟩), fun z => ⟨(by first | omega | exact ⟨by omega, by omega⟩), ?_⟩, fun z => ⟨(by first | omega | exact ⟨by omega, by omega⟩), fun z2 => ⟨(by first | omega | exact ⟨by omega, by omega⟩), ?_⟩, fun z2 => ⟨(by first | omega | exact ⟨by omega, by omega⟩), (by first | omega | exact ⟨by omega, by omega⟩), ?_⟩⟩⟩⟩
          · rw [decide_eq_false z] at nx
            have e : ∀ u : Int, u + zi (true && false && decide (zY p i = y)) = u := fun u => by show u + 0 = u; omega
            rw [e] at nx
            exact nx
          · rw [decide_eq_true z, decide_eq_false z2] at nx
            have e : ∀ u : Int, u + zi (true && true && false) = u := fun u => by show u + 0 = u; omega
            rw [e] at nx
            exact nx
          · rw [decide_eq_true z, decide_eq_true z2] at nx
            exact nx
    exact key 0 (by omega) (by omega)
  · rw [zbt_l t0] at q
    have e : zN 30 (fun f => S f && decide (zX p f = x) && decide (zY p f = y)) = 0 := zN_nil 30 (fun f _ _ => by
      cases hz : (S f && decide (zX p f = x) && decide (zY p f = y)) with
      | false => rfl
      | true =>
        simp only [Bool.and_eq_true, decide_eq_true_eq] at hz
        have := ht.2 f hz.1.1
        rw [hz.1.2, hz.2, q] at this
        cases this)
    rw [e] at hk
    exact hk
theorem e_layDown (v0 : 0 ≤ v) (vb : ∀ f, 0 ≤ f → zbt v f = S f) (hD : zDn p μ S) (hk : ∀ m, (∀ o i, o ≠ 30 → m o i = μ o i) → zTk p m S → K (zD (zws p S)) m) : z_ci m_X10_layDown [(2, 29), (0, v)] μ (d + 1) K := by
  refine V_X10_layDown ?_
  have two : ∀ b, 0 ≤ b → b ≤ 30 → ∀ (m : z_Mem) (w : Int), (∀ o i, o ≠ 30 → m o i = μ o i) → 0 ≤ w → (∀ f, 0 ≤ f → zbt w f = (S f && decide (f < b))) → zTk p m (fun f => S f && decide (f < b)) → z_ri m_X10_layDown 28 [some (2, 29), some (0, v), some (0, zS b.toNat (fun b => zN 30 (zws p S b))), some (0, w), some (0, b), none, none] m (d + 1) K := by
    refine z_up (fun b b0 b1 ih m w hf w0 wb ht => V_X10_layDown_28 ⟨fun q => ?_, fun q => ⟨(by first | omega | exact ⟨by omega, by omega⟩), v0, ?_⟩⟩)
    · obtain rfl : b = 30 := by omega
      refine hk m hf ⟨ht.1, fun f hs => ht.2 f ?_⟩
      have := (hD f hs).1
      show (S f && decide (f < 30)) = true
      rw [hs, decide_eq_true this.2]
      rfl
    · have nx := ih q
      rw [zS_up b0] at nx
      have sb : 0 ≤ zS b.toNat (fun b => zN 30 (zws p S b)) ∧ zS b.toNat (fun b => zN 30 (zws p S b)) ≤ 900 := by
        refine ⟨zS_nn _ (fun a _ _ => (zN_r 30).1), ?_⟩
        have := zS_le (f := fun b => zN 30 (zws p S b)) (g := fun _ => 30) b.toNat (fun a _ _ => (zN_r 30).2)
        rw [zS_const] at this
        omega
      rw [zbt_z v0, vb b b0]
      cases hz : S b with
      | false =>
        refine ⟨fun _ => ⟨(by first | omega | exact ⟨by omega, by omega⟩), ?_⟩, fun z => absurd rfl z⟩
        have e : zN 30 (zws p S b) = 0 := zN_nil 30 (fun i _ _ => by
          unfold zws
          rw [hz]
          simp)
        rw [e, Int.add_zero] at nx
        have es : ∀ f, (S f && decide (f < b + 1)) = (S f && decide (f < b)) := fun f => by
          by_cases x : f = b
          · rw [x, hz]
            rfl
          · by_cases y : f < b
            · rw [decide_eq_true y, decide_eq_true (by omega)]
            · rw [decide_eq_false y, decide_eq_false (by omega)]
        exact nx m w hf w0 (fun f f0 => by rw [wb f f0, es f]) ⟨ht.1, fun f hs => ht.2 f (by show (S f && decide (f < b)) = true; rw [← es f]; exact hs)⟩
      | true =>
        obtain ⟨d1, d2, d3, d4, d5⟩ := hD b hz
        refine ⟨fun z => absurd z (by decide), fun _ => ⟨(by first | omega | exact ⟨by omega, by omega⟩), (by first | omega | exact ⟨by omega, by omega⟩), ?_⟩⟩
        rw [hf 24 b (by decide), hf 25 b (by decide), d2, d3]
        have z2 := zN_r (P := zws p S b) 30
        have en : zN 30 (fun f => (S f && decide (f < b)) && decide (zX p f = zX p b) && decide (zY p f = zY p b)) = zN 30 (zws p S b) := zN_eq 30 (fun f _ _ => by
          unfold zws
          rw [hz]
          cases S f <;> cases decide (f < b) <;> rfl)
        refine e_howManyAt (S := fun f => S f && decide (f < b)) w0 wb (fun f hs => ?_) ht (by omega) ?_
        · have hs : (S f && decide (f < b)) = true := hs
          rw [Bool.and_eq_true] at hs
          have := hD f hs.1
          rw [hf 24 f (by decide), hf 25 f (by decide)]
          exact this
        · rw [en]
          have t0 := ht.1 ((zY p b + 32) % 64) (by omega) (by omega)
          refine ⟨(by first | omega | exact ⟨by omega, by omega⟩), (by first | omega | exact ⟨by omega, by omega⟩), (by first | omega | exact ⟨by omega, by omega⟩), (by first | omega | exact ⟨by omega, by omega⟩), (by first | omega | exact ⟨by omega, by omega⟩), ⟨t0, by rw [zpw']; exact Int.natCast_nonneg _⟩, (by first | omega | exact ⟨by omega, by omega⟩), (by first | omega | exact ⟨by omega, by omega⟩), ⟨w0, by rw [zpw']; exact Int.natCast_nonneg _⟩, (by first | omega | exact ⟨by omega, by omega⟩), ?_⟩
          refine nx (z_st m 30 ((zY p b + 32) % 64) (zor (m 30 ((zY p b + 32) % 64)) ((zX p b + 32) % 64))) (zor w b) (fun o i ho => by rw [z_st_ne ho]; exact hf o i ho) zor_n (fun f f0 => ?_) ⟨fun i i0 i1 => ?_, fun f hs => ?_⟩
          · rw [zbt_or b0 f0, wb f f0]
            by_cases x : f = b
            · rw [x, hz, decide_eq_true rfl, decide_eq_true (show b < b + 1 by omega)]
              simp
            · rw [decide_eq_false x]
              by_cases y : f < b
              · rw [decide_eq_true y, decide_eq_true (by omega)]
                simp
              · rw [decide_eq_false y, decide_eq_false (by omega)]
                simp
          · by_cases x : i = (zY p b + 32) % 64
            · rw [x, z_st_eq]
              exact zor_n
            · rw [z_st_ni x]
              exact ht.1 i i0 i1
          · have hs : (S f && decide (f < b + 1)) = true := hs
            rw [Bool.and_eq_true] at hs
            by_cases x : (zY p f + 32) % 64 = (zY p b + 32) % 64
            · rw [x, z_st_eq, zbt_or (by omega) (by omega)]
              by_cases y : f = b
              · rw [y, decide_eq_true rfl]
                simp
              · have := of_decide_eq_true hs.2
                have := ht.2 f (by show (S f && decide (f < b)) = true; rw [hs.1, decide_eq_true (by omega)]; rfl)
                rw [x] at this
                rw [this]
                rfl
            · rw [z_st_ni x]
              have y : f ≠ b := fun y => x (by rw [y])
              have := of_decide_eq_true hs.2
              exact ht.2 f (by show (S f && decide (f < b)) = true; rw [hs.1, decide_eq_true (by omega)]; rfl)
  have one : ∀ i, 0 ≤ i → i ≤ 64 → ∀ m : z_Mem, (∀ o i, o ≠ 30 → m o i = μ o i) → (∀ j, 0 ≤ j → j < i → m 30 j = 0) → z_ri m_X10_layDown 2 [some (2, 29), some (0, v), some (0, i), none, none, none, none] m (d + 1) K := by
    refine z_up (fun i i0 i1 ih m hf hm => V_X10_layDown_2 ⟨fun q => ?_, fun q => ⟨(by first | omega | exact ⟨by omega, by omega⟩), (by first | omega | exact ⟨by omega, by omega⟩), ?_⟩⟩)
    · obtain rfl : i = 64 := by omega
      refine two 0 (by omega) (by omega) m 0 hf (by omega) (fun f f0 => ?_) ⟨fun j j0 j1 => by rw [hm j j0 j1]; omega, fun f hs => ?_⟩
      · rw [zbt_0, decide_eq_false (by omega)]
        simp
      · have hs : (S f && decide (f < 0)) = true := hs
        rw [Bool.and_eq_true] at hs
        have := (hD f hs.1).1
        have := of_decide_eq_true hs.2
        omega
    · refine ih q (z_st m 30 i 0) (fun o j ho => by rw [z_st_ne ho]; exact hf o j ho) (fun j j0 j1 => ?_)
      by_cases x : j = i
      · rw [x, z_st_eq]
      · rw [z_st_ni x]
        exact hm j j0 (by omega)
  exact one 0 (by omega) (by omega) μ (fun _ _ _ => rfl) (fun j j0 j1 => by omega)
end TD

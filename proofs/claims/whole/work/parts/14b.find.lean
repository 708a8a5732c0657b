/-! THE FIRST NET: the class's search -/
def zTld (m : z_Mem) : zTT → Prop
  | [] => True
  | x :: T => m 38 T.length = x.1 ∧ zTld m T
def zCT (p : zP) (m : z_Mem) (T : zTT) : Prop := zHb (m 31 0) (zTH T) ∧ zHb (m 31 4) (fun e => !decide (zto T e = 0)) ∧ m 31 3 = T.length ∧ zTld m T ∧ zPS m 32 (pa p) (pr p) (zLl p T)
section FI
variable {a b e h k v r f s x y w o : Int} {n c : Nat} {p : zP} {T : zTT} {L : List Int} {μ μ0 : z_Mem} {d : Nat} {K : Int → z_Mem → Prop} {Kn : z_Mem → Prop}
theorem zTld_ag {m m' : z_Mem} : ∀ {T : zTT}, zTld m T → (∀ i, 0 ≤ i → i < T.length → m' 38 i = m 38 i) → zTld m' T
  | [], _, _ => trivial
  | x :: T, h, hf => ⟨by rw [hf T.length (by omega) (by rw [List.length_cons]; omega)]; exact h.1, zTld_ag h.2 (fun i i0 i1 => hf i i0 (by rw [List.length_cons]; omega))⟩
theorem e_takenC (ho : z_kd o = 6) (hr : ∀ f, zin (pa p) (pr p) L f = true → 0 ≤ f ∧ f < 30) (ht : zTr (pF p) (pa p) (pe p) (zTH T) (pr p) L) (hl : (L.length : Int) + 1 ≤ 30) (hm : zPS μ o (pa p) (pr p) L) (hk : K (zi (ztk p L x y)) μ) : z_ci m_X6_isTaken [(2, o), (0, x), (0, y)] μ d K := by
  obtain ⟨q1, q2, q3, q4, q5⟩ := hm
  have pos := zLy_po ht q5
  have key : ∀ i : Int, 0 ≤ i → i ≤ L.length + 1 → (∀ j, 0 ≤ j → j < i → ¬ ((zpo (pa p) L (zfj (pa p) (pr p) L j)).1 = x ∧ (zpo (pa p) L (zfj (pa p) (pr p) L j)).2.1 = y)) → z_ri m_X6_isTaken 2 [some (2, o), some (0, x), some (0, y), some (0, i)] μ d K := by
    refine z_up (fun i i0 i1 ih hno => V_X6_isTaken_2 ho ⟨fun q => ?_, fun q => ?_⟩)
    · rw [q1] at q
      have : ztk p L x y = false := by
        cases hz : ztk p L x y with
        | false => rfl
        | true =>
          obtain ⟨f, f1, f2, f3⟩ := (ztk_iff hr).mp hz
          obtain ⟨j, j0, j1, j2⟩ := zin_ex f1
          exact absurd ⟨by rw [j2]; exact f2, by rw [j2]; exact f3⟩ (hno j j0 (by omega))
      rw [this] at hk
      exact hk
    · rw [q1] at q
      have fj := q3 i i0 q
      have rf := hr _ (zin_j (ac := pa p) (r := pr p) (L := L) (j := i))
      obtain ⟨p1, p2, _⟩ := pos _ (zin_j (ac := pa p) (r := pr p) (L := L) (j := i))
      have nx : ¬ ((zpo (pa p) L (zfj (pa p) (pr p) L i)).1 = x ∧ (zpo (pa p) L (zfj (pa p) (pr p) L i)).2.1 = y) → z_ri m_X6_isTaken 2 [some (2, o), some (0, x), some (0, y), some (0, i + 1)] μ d K := fun hn => ih (by omega) (fun j j0 j1 => by
        by_cases w : j = i
        · rw [w]
          exact hn
        · exact hno j j0 (by omega))
      rw [fj, p1, p2]
      refine ⟨(by first | omega | exact ⟨by omega, by omega⟩), rf, fun z => ⟨(by first | omega | exact ⟨by omega, by omega⟩), nx (fun w => z w.1)⟩, fun z => ⟨(by first | omega | exact ⟨by omega, by omega⟩), rf, fun z2 => ⟨(by first | omega | exact ⟨by omega, by omega⟩), nx (fun w => z2 w.2)⟩, fun z2 => ?_⟩⟩
      have : ztk p L x y = true := (ztk_iff hr).mpr ⟨_, zin_j (j := i), z, z2⟩
      rw [this] at hk
      exact hk
  exact V_X6_isTaken ho (key 0 (by omega) (by omega) (fun j j0 j1 => by omega))
theorem e_takeLast (ho : z_kd o = 6) (hn : zin (pa p) (pr p) L (pa p k / 4) = false) (hl : (L.length : Int) + 1 < 30) (hr : 0 ≤ pa p k / 4 ∧ pa p k / 4 < 30) (hm : zPS μ o (pa p) (pr p) (k :: L)) (hk : ∀ m, (∀ q i, q ≠ o → m q i = μ q i) → zPS m o (pa p) (pr p) L → Kn m) : z_cn m_X6_takeLast [(2, o)] μ d Kn := by
  obtain ⟨q1, q2, q3, q4, q5⟩ := hm
  rw [List.length_cons] at q1
  have e6 : z_st μ o 6 (μ o 6 - 1) o 6 = L.length + 1 := by rw [z_st_eq]; omega
  have e4 : z_st μ o 6 (μ o 6 - 1) (o + 4) (L.length + 1) = pa p k / 4 := by
    rw [z_st_ne (by omega), q3 _ (by omega) (by rw [List.length_cons]; omega)]
    exact if_pos rfl
  have e5 : z_st μ o 6 (μ o 6 - 1) o 5 = μ o 5 := z_st_ni (by decide)
  refine V_X6_takeLast ho ⟨fun q => by omega, fun q => ?_⟩
  rw [e6, e4, e5]
  refine ⟨(by first | omega | exact ⟨by omega, by omega⟩), (by first | omega | exact ⟨by omega, by omega⟩), (by first | omega | exact ⟨by omega, by omega⟩), ⟨q2.1.1, by rw [zpw']; exact Int.natCast_nonneg _⟩, ?_⟩
  refine hk (z_st (z_st μ o 6 (μ o 6 - 1)) o 5 (zan (μ o 5) (pa p k / 4))) (fun q i hq => by rw [z_st_ne hq, z_st_ne hq]) ⟨?_, ⟨⟨?_, ?_⟩, fun f f0 => ?_⟩, fun j j0 j1 => ?_, ⟨?_, fun k' hk' => ?_⟩, ?_⟩
  · rw [z_st_ni (by decide), z_st_eq]
    omega
  · rw [z_st_eq]
    exact zan_n
  · rw [z_st_eq]
    exact zan_lt q2.1.2
  · rw [z_st_eq, zbt_an hr.1 f0, q2.2 f f0]
    show ((decide (f = pa p k / 4) || zin (pa p) (pr p) L f) && !decide (f = pa p k / 4)) = zin (pa p) (pr p) L f
    by_cases w : f = pa p k / 4
    · rw [w, hn, decide_eq_true rfl]
      rfl
    · rw [decide_eq_false w]
      simp
  · rw [z_st_ne (by omega), z_st_ne (by omega), q3 j j0 (by rw [List.length_cons]; omega)]
    exact if_neg (by omega)
  · rw [z_st_ne (by omega), z_st_ne (by omega)]
    exact q4.1
  · rw [z_st_ne (by omega), z_st_ne (by omega)]
    exact q4.2 k' (List.mem_cons_of_mem _ hk')
  · have a1 : z_st (z_st μ o 6 (μ o 6 - 1)) o 5 (zan (μ o 5) (pa p k / 4)) (o + 1) = μ (o + 1) := funext fun i => by rw [z_st_ne (by omega), z_st_ne (by omega)]
    have a2 : z_st (z_st μ o 6 (μ o 6 - 1)) o 5 (zan (μ o 5) (pa p k / 4)) (o + 2) = μ (o + 2) := funext fun i => by rw [z_st_ne (by omega), z_st_ne (by omega)]
    have a3 : z_st (z_st μ o 6 (μ o 6 - 1)) o 5 (zan (μ o 5) (pa p k / 4)) (o + 3) = μ (o + 3) := funext fun i => by rw [z_st_ne (by omega), z_st_ne (by omega)]
    rw [a1, a2, a3]
    exact q5.2
theorem e_leastC (hv : zV p) (G : zGc μ (pF p) (pa p) (pe p) (pq p)) (h4 : zHb (μ 31 4) (fun e => !decide (zto T e = 0))) (hb : zBi (pa p) (pr p) (zLl p T) (μ 32 5)) (h1 : zle' p T < 2 * pF p → K (zle' p T) μ) (h2 : ¬ zle' p T < 2 * pF p → K (-1) μ) : z_ci m_X5_leastEdge [(2, 31), (2, 6)] μ (d + 1) K := by
  have sk := zV_sk hv
  have F0 : 0 ≤ pF p ∧ pF p ≤ 30 := sk.1
  have ho : z_kd 32 = 6 := by decide +kernel
  have key : ∀ e, 0 ≤ e → e ≤ 2 * pF p → zr (fun e => !zfrT p T e) (2 * pF p) e = zle' p T → z_ri m_X5_leastEdge 2 [some (2, 31), some (2, 6), some (0, e)] μ (d + 1) K := by
    refine z_up (fun e e0 e1 ih hz => V_X5_leastEdge_2 ?_)
    rw [G.2.1]
    refine ⟨fun q => ?_, fun q => ⟨(by first | omega | exact ⟨by omega, by omega⟩), h4.1.1, ⟨zdv_n h4.1.1, by omega⟩, ?_⟩⟩
    · rw [zr_no (by omega)] at hz
      exact h2 (by omega)
    · have h4e : zbt (μ 31 4) e = !decide (zto T e = 0) := h4.2 e e0
      rw [zbt_l h4.1.1, h4e]
      have nx : zfrT p T e = false → z_ri m_X5_leastEdge 2 [some (2, 31), some (2, 6), some (0, e + 1)] μ (d + 1) K := fun hf => ih q (by rw [← hz]; exact (zr_y (P := fun e => !zfrT p T e) q (by show (!zfrT p T e) = true; rw [hf]; rfl)).symm)
      have hit : zfrT p T e = true → K e μ := fun hf => by
        rw [zr_no (P := fun e => !zfrT p T e) (fun w => by have := w.2; rw [hf] at this; cases this)] at hz
        rw [hz] at q ⊢
        exact h1 q
      have fr : zfrT p T e = (decide (zto T e = 0) && (zin (pa p) (pr p) (zLl p T) (pq p e / 4) != zin (pa p) (pr p) (zLl p T) (pa p (pq p e) / 4))) := rfl
      obtain ⟨r1, r2, _⟩ := zV_e hv (a := e) ⟨e0, q⟩
      obtain ⟨s1, s2, s3, s4, s5, s6⟩ := sk.2.1 _ r1.1 r1.2
      by_cases z : zto T e = 0
      · rw [decide_eq_true z] at fr ⊢
        refine ⟨fun w => absurd rfl w, fun _ => e_faceOf G (by omega) ⟨e0, q⟩ (Or.inl rfl) ?_⟩
        rw [if_pos rfl]
        have sec : ∀ {P : Int → z_Mem → Prop}, P (pa p (pq p e) / 4) μ → z_ci m_X9_faceOf [(2, 6), (0, e), (0, 1)] μ d P := fun hp => e_faceOf G (by omega) ⟨e0, q⟩ (Or.inr rfl) (by rw [if_neg (by decide)]; exact hp)
        refine e_holds ho (v := 0) hb (by omega) (fun i1 => sec (e_holds ho (v := 0) hb (by omega) (fun i2 => ?_) (fun i2 => ?_))) (fun i1 => sec (e_holds ho (v := 0) hb (by omega) (fun i2 => ?_) (fun i2 => ?_)))
        · rw [i1, i2] at fr
          exact ⟨fun _ => ⟨(by first | omega | exact ⟨by omega, by omega⟩), nx fr⟩, fun w => absurd rfl w⟩
        · rw [i1, i2] at fr
          exact ⟨fun w => absurd w (by decide), fun _ => hit fr⟩
        · rw [i1, i2] at fr
          exact ⟨fun w => absurd w (by decide), fun _ => hit fr⟩
        · rw [i1, i2] at fr
          exact ⟨fun _ => ⟨(by first | omega | exact ⟨by omega, by omega⟩), nx fr⟩, fun w => absurd rfl w⟩
      · rw [decide_eq_false z] at fr ⊢
        exact ⟨fun _ => ⟨(by first | omega | exact ⟨by omega, by omega⟩), nx fr⟩, fun w => absurd w (by decide)⟩
  exact V_X5_leastEdge (key 0 (by omega) (by omega) rfl)
theorem e_turnBack (hv : zV p) (Kf : ∀ m, (∀ o i, (o < 31 ∨ 38 < o) → m o i = μ0 o i) → (zbk T).length = 0 → K 0 m) (Kt : ∀ m, (∀ o i, (o < 31 ∨ 38 < o) → m o i = μ0 o i) → ¬ (zbk T).length = 0 → zCT p m (zbk T) → K 1 m) (hT : zTI p T) (hC : zCT p μ T) (hf : ∀ o i, (o < 31 ∨ 38 < o) → μ o i = μ0 o i) : z_ci m_X5_turnBack [(2, 31)] μ (d + 1) K := by
  have sk := zV_sk hv
  have F0 : 0 ≤ pF p ∧ pF p ≤ 30 := sk.1
  have ho : z_kd 32 = 6 := by decide +kernel
  have step : ∀ (x : Int × Bool) (U : zTT) (m : z_Mem), zbk T = zbk (x :: U) → zTI p (x :: U) → zCT p m (x :: U) → (∀ o i, (o < 31 ∨ 38 < o) → m o i = μ0 o i) → (∀ m, zbk T = zbk U → zCT p m U → (∀ o i, (o < 31 ∨ 38 < o) → m o i = μ0 o i) → z_ri m_X5_turnBack 0 [some (2, 31), none] m (d + 1) K) → z_ri m_X5_turnBack 0 [some (2, 31), none] m (d + 1) K := by
    rintro ⟨e, bb⟩ U m hb hI hC hf ih
    obtain ⟨c1, c2, c3, c4, c5⟩ := hC
    rw [List.length_cons] at c3
    have c4a : m 38 U.length = e := c4.1
    obtain ⟨⟨t1, t2, t3, t4⟩, t5⟩ := id hI
    have u1 : 0 ≤ e ∧ e < 2 * pF p := t1
    have u2 : zto U e = 0 := t2
    have u4 : zin (pa p) (pr p) (zLl p U) (pa p (zsdL p (zLl p U) e) / 4) = false := t4
    have ln := (zTI_len hv t5).2 e u1 u2
    have e3 : m 31 3 - 1 = U.length := by omega
    refine V_X5_turnBack_0 ⟨fun q => by omega, fun q => ?_⟩
    rw [e3, c4a]
    refine ⟨(by first | omega | exact ⟨by omega, by omega⟩), (by first | omega | exact ⟨by omega, by omega⟩), (by first | omega | exact ⟨by omega, by omega⟩), c1.1.1, ⟨zdv_n c1.1.1, by omega⟩, ?_⟩
    rw [zbt_l c1.1.1, c1.2 e u1.1]
    cases bb with
    | false =>
      have z : zTH ((e, false) :: U) e = false := by
        show decide (zto ((e, false) :: U) e = 1) = false
        rw [show zto ((e, false) :: U) e = 2 from zto_e]
        rfl
      rw [z]
      refine ⟨fun _ => ⟨(by first | omega | exact ⟨by omega, by omega⟩), ⟨c2.1.1, by rw [zpw']; exact Int.natCast_nonneg _⟩, ?_⟩, fun w => absurd rfl w⟩
      have e3' : z_st m 31 4 (zan (m 31 4) e) 31 3 - 1 = U.length := by rw [z_st_ni (by decide)]; exact e3
      have g := ih (z_st (z_st m 31 4 (zan (m 31 4) e)) 31 3 U.length) hb ⟨?_, ⟨⟨?_, ?_⟩, fun f f0 => ?_⟩, z_st_eq, zTld_ag c4.2 (fun i _ _ => by rw [z_st_ne (by decide), z_st_ne (by decide)]), ?_⟩ (fun o i q => by rw [z_st_ne (by omega), z_st_ne (by omega)]; exact hf o i q)
      · refine ⟨?_, ?_⟩
        · show z_I (z_st m 31 4 (zan (m 31 4) e) 31 3 - 1)
          rw [e3']
          exact ⟨by omega, by omega⟩
        · show z_ri m_X5_turnBack 0 [some (2, 31), none] (z_st (z_st m 31 4 (zan (m 31 4) e)) 31 3 (z_st m 31 4 (zan (m 31 4) e) 31 3 - 1)) (d + 1) K
          rw [e3']
          exact g
      · rw [z_st_ni (by decide), z_st_ni (by decide), ← zTH_of u2]
        exact c1
      · rw [z_st_ni (by decide), z_st_eq]
        exact zan_n
      · rw [z_st_ni (by decide), z_st_eq]
        exact zan_lt c2.1.2
      · rw [z_st_ni (by decide), z_st_eq, zbt_an u1.1 f0, c2.2 f f0]
        show (!decide (zto ((e, false) :: U) f = 0) && !decide (f = e)) = !decide (zto U f = 0)
        by_cases w : f = e
        · rw [w, u2, decide_eq_true (rfl : e = e)]
          simp
        · rw [zto_ne (x := (e, false)) w, decide_eq_false w]
          simp
      · have eL : zLl p ((e, false) :: U) = zLl p U := if_neg Bool.false_ne_true
        rw [eL] at c5
        exact zPS_fr c5 (fun q i h1 h2 => by rw [z_st_ne (by omega), z_st_ne (by omega)])
    | true =>
      have z : zTH ((e, true) :: U) e = true := by
        show decide (zto ((e, true) :: U) e = 1) = true
        rw [show zto ((e, true) :: U) e = 1 from zto_e]
        rfl
      rw [z]
      have eL : zLl p ((e, true) :: U) = zsdL p (zLl p U) e :: zLl p U := if_pos rfl
      rw [eL] at c5
      obtain ⟨d1, d2, d3, d4⟩ := zsdL_r (L := zLl p U) hv u1
      obtain ⟨s1, s2, s3, s4, s5, s6⟩ := sk.2.1 _ d1.1 d1.2
      have all := zTI_all hv hI
      rw [eL] at all
      have lb := zTr_le sk (r := pr p) (by
        have := hv.2.2.2.2.2.1
        omega) all.1
      rw [List.length_cons] at lb
      refine ⟨fun w => absurd w (by decide), fun _ => ⟨(by first | omega | exact ⟨by omega, by omega⟩), ⟨c1.1.1, by rw [zpw']; exact Int.natCast_nonneg _⟩, ?_⟩⟩
      refine e_takeLast (μ := z_st m 31 0 (zan (m 31 0) e)) (k := zsdL p (zLl p U) e) ho u4 (by omega) (by omega) (zPS_fr c5 (fun q i h1 h2 => by rw [z_st_ne (by omega)])) (fun m2 f2 P2 => ?_)
      have eb : zbk T = (e, false) :: U := hb
      refine Kt m2 (fun o i q => by rw [f2 o i (by omega), z_st_ne (by omega)]; exact hf o i q) (by rw [eb, List.length_cons]; omega) ?_
      rw [eb]
      have eL2 : zLl p ((e, false) :: U) = zLl p U := if_neg Bool.false_ne_true
      have hoff : ∀ f, zTH ((e, false) :: U) f = (zTH ((e, true) :: U) f && !decide (f = e)) := fun f => by
        rw [zTH_of u2, zTH_on]
        show decide (zto U f = 1) = ((decide (f = e) || decide (zto U f = 1)) && !decide (f = e))
        by_cases w : f = e
        · rw [w, u2]
          simp
        · rw [decide_eq_false w]
          simp
      refine ⟨⟨⟨?_, ?_⟩, fun f f0 => ?_⟩, ?_, ?_, ⟨?_, ?_⟩, by rw [eL2]; exact P2⟩
      · rw [f2 31 0 (by decide), z_st_eq]
        exact zan_n
      · rw [f2 31 0 (by decide), z_st_eq]
        exact zan_lt c1.1.2
      · rw [f2 31 0 (by decide), z_st_eq, zbt_an u1.1 f0, c1.2 f f0, hoff f]
      · rw [f2 31 4 (by decide), z_st_ni (by decide)]
        refine ⟨c2.1, fun f f0 => ?_⟩
        rw [c2.2 f f0]
        show (!decide (zto ((e, true) :: U) f = 0)) = !decide (zto ((e, false) :: U) f = 0)
        by_cases w : f = e
        · rw [w, show zto ((e, true) :: U) e = 1 from zto_e, show zto ((e, false) :: U) e = 2 from zto_e]
          rfl
        · rw [zto_ne (x := (e, true)) w, zto_ne (x := (e, false)) w]
      · rw [f2 31 3 (by decide), z_st_ni (by decide), List.length_cons]
        exact c3
      · show m2 38 U.length = e
        rw [f2 38 _ (by decide), z_st_ne (by decide)]
        exact c4a
      · exact zTld_ag c4.2 (fun i _ _ => by rw [f2 38 _ (by decide), z_st_ne (by decide)])
  have loop : ∀ (U : zTT) (m : z_Mem), zbk T = zbk U → zTI p U → zCT p m U → (∀ o i, (o < 31 ∨ 38 < o) → m o i = μ0 o i) → z_ri m_X5_turnBack 0 [some (2, 31), none] m (d + 1) K := by
    intro U
    induction U with
    | nil =>
      intro m hb hI hC hf
      have c3 : m 31 3 = 0 := hC.2.2.1
      exact V_X5_turnBack_0 ⟨fun _ => Kf m hf (by rw [hb]; rfl), fun q => by omega⟩
    | cons x U ih => exact fun m hb hI hC hf => step x U m hb hI hC hf (fun m' hb' hC' hf' => ih m' hb' hI.2 hC' hf')
  have g := loop T μ rfl hT hC hf
  exact g
end FI

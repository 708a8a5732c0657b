/-! THE FIRST NET: the class tells, and finds -/
section FI
variable {a b e h k v r f s x y w o : Int} {n c : Nat} {p : zP} {T : zTT} {L : List Int} {μ μ0 : z_Mem} {d : Nat} {K : Int → z_Mem → Prop} {Kn : z_Mem → Prop}
theorem zin_30 (hv : zV p) (hT : zTI p T) (hr : 0 ≤ pr p ∧ pr p < pF p) : ∀ f, zin (pa p) (pr p) (zLl p T) f = true → (0 ≤ f ∧ f < 30) ∧ f < pF p := fun f hf => by
  have sk := zV_sk hv
  have F0 : 0 ≤ pF p ∧ pF p ≤ 30 := sk.1
  have := zTr_in sk hr (zTI_all hv hT).1 hf
  omega
theorem e_tell (hv : zV p) (hr : 0 ≤ pr p ∧ pr p < pF p) (G : zGc μ (pF p) (pa p) (pe p) (pq p)) (hT : zTI p T) (hC : zCT p μ T) (he : 0 ≤ e ∧ e < 2 * pF p) (hf : zfrT p T e = true) (hk : ∀ m, (∀ o i, (o < 31 ∨ 38 < o) → m o i = μ o i) → zCT p m ((e, zfre' p T e) :: T) → Kn m) : z_cn m_X5_tell [(2, 31), (2, 6), (0, e)] μ (d + 3) Kn := by
  have sk := zV_sk hv
  have F0 : 0 ≤ pF p ∧ pF p ≤ 30 := sk.1
  have ho : z_kd 32 = 6 := by decide +kernel
  obtain ⟨hI, h0⟩ := zTI_c (b' := true) hv hT he hf
  obtain ⟨⟨t1, t2, t3, t4⟩, t5⟩ := hI
  have t3 : zin (pa p) (pr p) (zLl p T) (zsdL p (zLl p T) e / 4) = true := t3
  have t4 : zin (pa p) (pr p) (zLl p T) (pa p (zsdL p (zLl p T) e) / 4) = false := t4
  obtain ⟨d1, d2, d3, d4⟩ := zsdL_r (L := zLl p T) hv he
  obtain ⟨s1, s2, s3, s4, s5, s6⟩ := sk.2.1 _ d1.1 d1.2
  have ln := (zTI_len hv hT).2 e he h0
  obtain ⟨c1, c2, c3, c4, c5⟩ := hC
  have tr := (zTI_all hv hT).1
  have in30 := zin_30 hv hT hr
  have lb := zTr_lt sk hr tr (f := pa p (zsdL p (zLl p T) e) / 4) (by omega) t4
  obtain ⟨g1, g2⟩ := G.2.2.2 e he.1 he.2
  have g3 := (G.2.2.1 _ d1.1 d1.2).1
  have main : ∀ (M2 : z_Mem) (k : Int), k = zsdL p (zLl p T) e → (∀ o i, o ≠ 31 → o ≠ 38 → M2 o i = μ o i) → M2 31 0 = μ 31 0 → zHb (M2 31 4) (fun f => decide (f = e) || !decide (zto T f = 0)) → M2 31 3 = T.length + 1 → M2 38 T.length = e → (∀ i, 0 ≤ i → i < T.length → M2 38 i = μ 38 i) → z_ci m_X6_xBehind [(2, 32), (0, k)] M2 (d + 2) (fun x13 m11 => z_ci m_X6_yBehind [(2, 32), (0, k)] m11 (d + 2) (fun x16 m14 => z_ci m_X6_isTaken [(2, 32), (0, x13), (0, x16)] m14 (d + 2) (fun x19 m17 => (¬ x19 = 0 → Kn m17) ∧ (x19 = 0 → ((0 : Int) ≤ e ∧ e < 63) ∧ (((0 : Int) ≤ m17 31 0 ∧ (0 : Int) ≤ (2 : Int) ^ (e : Int).toNat) ∧ (((0 : Int) ≤ k ∧ k < 120) ∧ (z_cn m_X6_putBehind [(2, 32), (0, k), (0, (z_st m17 31 0 (zor (m17 31 0) e)) 11 k)] (z_st m17 31 0 (zor (m17 31 0) e)) (d + 2) (fun m22 => Kn m22)))))))) := by
    intro M2 k hk' f2 m0 m4 m3 m38 mt
    subst hk'
    have P2 : zPS M2 32 (pa p) (pr p) (zLl p T) := zPS_fr c5 (fun q i h1 h2 => f2 q i (by omega) (by omega))
    obtain ⟨p1, p2, p3⟩ := zLy_po tr P2.2.2.2.2 _ t3
    have bd := zLy_b tr P2.2.2.2.2 _ t3
    have ew : zwy (M2 (32 + 3)) (zsdL p (zLl p T) e) = (zsdL p (zLl p T) e + (zpo (pa p) (zLl p T) (zsdL p (zLl p T) e / 4)).2.2) % 4 := by unfold zwy; rw [p3]
    refine e_xBehind ho (by omega) bd.2.2 (by omega) (e_yBehind ho (by omega) bd.2.2 (by omega) ?_)
    rw [ew, p1, p2]
    have hfr : ∀ bb : Bool, ∀ m : z_Mem, m 31 4 = M2 31 4 → zHb (m 31 4) (fun f => !decide (zto ((e, bb) :: T) f = 0)) := fun bb m hm => by
      rw [hm]
      refine ⟨m4.1, fun f f0 => ?_⟩
      rw [m4.2 f f0]
      show (decide (f = e) || !decide (zto T f = 0)) = !decide (zto ((e, bb) :: T) f = 0)
      by_cases w : f = e
      · rw [w, show zto ((e, bb) :: T) e = (if bb = true then 1 else 2) from zto_e]
        cases bb <;> simp
      · rw [zto_ne (x := (e, bb)) w, decide_eq_false w]
        rfl
    have told : ∀ bb : Bool, ∀ m : z_Mem, (∀ i, m 38 i = M2 38 i) → zTld m ((e, bb) :: T) := fun bb m hm => ⟨by rw [hm]; exact m38, zTld_ag c4 (fun i i0 i1 => by rw [hm]; exact mt i i0 i1)⟩
    refine e_takenC ho (fun f hf => (in30 f hf).1) tr (by omega) P2 ?_
    have ez : zfre' p T e = !ztk p (zLl p T) (zkX p (zLl p T) (zsdL p (zLl p T) e)) (zkY p (zLl p T) (zsdL p (zLl p T) e)) := rfl
    have ek : ztk p (zLl p T) ((zpo (pa p) (zLl p T) (zsdL p (zLl p T) e / 4)).1 + zsx ((zsdL p (zLl p T) e + (zpo (pa p) (zLl p T) (zsdL p (zLl p T) e / 4)).2.2) % 4)) ((zpo (pa p) (zLl p T) (zsdL p (zLl p T) e / 4)).2.1 + zsy ((zsdL p (zLl p T) e + (zpo (pa p) (zLl p T) (zsdL p (zLl p T) e / 4)).2.2) % 4)) = ztk p (zLl p T) (zkX p (zLl p T) (zsdL p (zLl p T) e)) (zkY p (zLl p T) (zsdL p (zLl p T) e)) := rfl
    rw [ek]
    cases hz : ztk p (zLl p T) (zkX p (zLl p T) (zsdL p (zLl p T) e)) (zkY p (zLl p T) (zsdL p (zLl p T) e)) with
    | true =>
      rw [hz] at ez
      have ez : zfre' p T e = false := ez
      rw [ez] at hk
      have eL : zLl p ((e, false) :: T) = zLl p T := if_neg Bool.false_ne_true
      refine ⟨fun _ => hk M2 (fun o i q => f2 o i (by omega) (by omega)) ⟨?_, hfr false M2 rfl, by rw [m3, List.length_cons]; omega, told false M2 (fun _ => rfl), by rw [eL]; exact P2⟩, fun w => absurd w (by decide)⟩
      rw [m0, zTH_of h0]
      exact c1
    | false =>
      rw [hz] at ez
      have ez : zfre' p T e = true := ez
      rw [ez] at hk
      have eL : zLl p ((e, true) :: T) = zsdL p (zLl p T) e :: zLl p T := if_pos rfl
      refine ⟨fun w => absurd rfl w, fun _ => ⟨(by first | omega | exact ⟨by omega, by omega⟩), ⟨by rw [m0]; exact c1.1.1, by rw [zpw']; exact Int.natCast_nonneg _⟩, (by first | omega | exact ⟨by omega, by omega⟩), ?_⟩⟩
      have e11 : z_st M2 31 0 (zor (M2 31 0) e) 11 (zsdL p (zLl p T) e) = pa p (zsdL p (zLl p T) e) := by
        rw [z_st_ne (by decide), f2 11 _ (by decide) (by decide)]
        exact g3
      rw [e11]
      refine e_putBehind ho tr (zPS_fr P2 (fun q i h1 h2 => z_st_ne (by omega))) (by omega) t3 t4 (by omega) (by omega) (fun m f3 P3 => hk m (fun o i q => ?_) ⟨?_, hfr true m (by rw [f3 31 4 (by omega), z_st_ni (by decide)]), ?_, told true m (fun i => by rw [f3 38 i (by omega), z_st_ne (by decide)]), by rw [eL]; exact P3⟩)
      · rw [f3 o i (by omega), z_st_ne (by omega)]
        exact f2 o i (by omega) (by omega)
      · rw [f3 31 0 (by omega), z_st_eq, m0, zTH_on]
        refine ⟨⟨zor_n, zor_lt c1.1.2 (by omega)⟩, fun f f0 => ?_⟩
        rw [zbt_or he.1 f0, c1.2 f f0, Bool.or_comm]
        rfl
      · rw [f3 31 3 (by omega), z_st_ni (by decide), m3, List.length_cons]
        omega
  have A3 : z_st μ 31 4 (zor (μ 31 4) e) 31 3 = T.length := by rw [z_st_ni (by decide)]; exact c3
  have go : ∀ k, k = zsdL p (zLl p T) e → _ := fun k hk' => main (z_st (z_st (z_st μ 31 4 (zor (μ 31 4) e)) 38 (z_st μ 31 4 (zor (μ 31 4) e) 31 3) e) 31 3 (z_st (z_st μ 31 4 (zor (μ 31 4) e)) 38 (z_st μ 31 4 (zor (μ 31 4) e) 31 3) e 31 3 + 1)) k hk' (fun o i h1 h2 => by rw [z_st_ne h1, z_st_ne h2, z_st_ne h1]) (by rw [z_st_ni (by decide), z_st_ne (by decide), z_st_ni (by decide)]) (by
      rw [z_st_ni (by decide), z_st_ne (by decide), z_st_eq]
      refine ⟨⟨zor_n, zor_lt c2.1.2 (by omega)⟩, fun f f0 => ?_⟩
      rw [zbt_or he.1 f0, c2.2 f f0, Bool.or_comm]) (by rw [z_st_eq, z_st_ne (by decide), A3]) (by rw [A3, z_st_ne (by decide), z_st_eq]) (fun i i0 i1 => by rw [A3, z_st_ne (by decide), z_st_ni (by omega), z_st_ne (by decide)])
  have zI : z_I (z_st (z_st μ 31 4 (zor (μ 31 4) e)) 38 (z_st μ 31 4 (zor (μ 31 4) e) 31 3) e 31 3 + 1) := by
    rw [z_st_ne (by decide), A3]
    exact ⟨by omega, by omega⟩
  have z60 : ¬ 60 ≤ z_st μ 31 4 (zor (μ 31 4) e) 31 3 := by rw [A3]; omega
  have z61 : 0 ≤ z_st μ 31 4 (zor (μ 31 4) e) 31 3 ∧ z_st μ 31 4 (zor (μ 31 4) e) 31 3 < 60 := by rw [A3]; omega
  refine V_X5_tell (e_faceOf G (by omega) he (Or.inl rfl) ?_)
  rw [if_pos rfl]
  obtain ⟨r1, r2, _⟩ := zV_e hv he
  refine e_holds ho (v := 0) c5.2.1 (by omega) (fun i1 => ⟨(by first | omega | exact ⟨by omega, by omega⟩), zy1' ⟨(by first | omega | exact ⟨by omega, by omega⟩), (by first | omega | exact ⟨by omega, by omega⟩), (by first | omega | exact ⟨by omega, by omega⟩), ⟨c2.1.1, by rw [zpw']; exact Int.natCast_nonneg _⟩, fun w => absurd w z60, fun _ => ⟨z61, zI, ?_⟩⟩⟩) (fun i1 => ⟨(by first | omega | exact ⟨by omega, by omega⟩), zy0' ⟨(by first | omega | exact ⟨by omega, by omega⟩), (by first | omega | exact ⟨by omega, by omega⟩), (by first | omega | exact ⟨by omega, by omega⟩), ⟨c2.1.1, by rw [zpw']; exact Int.natCast_nonneg _⟩, fun w => absurd w z60, fun _ => ⟨z61, zI, ?_⟩⟩⟩)
  · rw [Int.add_zero, g1]
    exact go (pq p e) (by unfold zsdL; rw [if_pos i1])
  · rw [g2]
    exact go (pa p (pq p e)) (by unfold zsdL; rw [if_neg (by rw [i1]; decide)])
theorem e_find (hv : zV p) (hr : 0 ≤ pr p ∧ pr p < pF p) (G : zGc μ (pF p) (pa p) (pe p) (pq p)) (hk : ∀ m c U, zrun p 3000 [] = (c, U) → (∀ o i, (o < 31 ∨ 38 < o) → m o i = μ o i) → (0 ≤ c → zTI p U ∧ zCT p m U) → K (if 0 ≤ c then 3000 - c else c) m) : z_ci m_X5_find [(2, 31), (2, 6), (0, pr p)] μ (d + 8) K := by
  have sk := zV_sk hv
  have F0 : 0 ≤ pF p ∧ pF p ≤ 30 := sk.1
  have ho : z_kd 32 = 6 := by decide +kernel
  have loop : ∀ (n : Nat) (T : zTT) (m : z_Mem), n ≤ 3000 → zrun p 3000 [] = zrun p n T → zTI p T → zCT p m T → (∀ o i, (o < 31 ∨ 38 < o) → m o i = μ o i) → z_ri m_X5_find 29 [some (2, 31), some (2, 6), none, some (0, 3001 - n), none] m (d + 8) K := by
    intro n
    induction n with
    | zero =>
      intro T m hn hz hI hC hf
      refine V_X5_find_29 ⟨fun q => ?_, fun q => by omega⟩
      exact hk m (-3) T hz hf (fun w => absurd w (by decide))
    | succ n ih =>
      intro T m hn hz hI hC hf
      have Gm : zGc m (pF p) (pa p) (pe p) (pq p) := by
        refine ⟨by rw [hf 6 2 (by omega)]; exact G.1, by rw [hf 6 8 (by omega)]; exact G.2.1, fun k k0 k1 => by rw [hf 11 k (by omega), hf 12 k (by omega)]; exact G.2.2.1 k k0 k1, fun e e0 e1 => by rw [hf 13 _ (by omega), hf 13 _ (by omega)]; exact G.2.2.2 e e0 e1⟩
      have e32 : m 32 6 = (zLl p T).length + 1 := hC.2.2.2.2.1
      have ev : (3001 - ((n + 1 : Nat) : Int)) = 3000 - n := by omega
      rw [ev]
      have en : ∀ U : zTT, n ≤ 3000 → zrun p 3000 [] = zrun p n U → zTI p U → ∀ m', zCT p m' U → (∀ o i, (o < 31 ∨ 38 < o) → m' o i = μ o i) → z_I (3000 - (n : Int) + 1) ∧ z_ri m_X5_find 29 [some (2, 31), some (2, 6), none, some (0, 3000 - (n : Int) + 1), none] m' (d + 8) K := fun U h1 h2 h3 m' h4 h5 => by
        refine ⟨(by first | omega | exact ⟨by omega, by omega⟩), ?_⟩
        rw [show 3000 - (n : Int) + 1 = 3001 - n by omega]
        exact ih U m' h1 h2 h3 h4 h5
      refine V_X5_find_29 ⟨fun q => by omega, fun _ => ⟨fun q => ?_, fun q => ?_⟩⟩
      · rw [e32, Gm.1] at q
        refine e_leastC hv Gm hC.2.1 hC.2.2.2.2.2.1 (fun hl => ⟨fun w => ?_, fun _ => ?_⟩) (fun hl => ⟨fun _ => ?_, fun w => absurd rfl w⟩)
        · have := (zle_f (p := p) (T := T) hl F0.1).1
          omega
        · obtain ⟨l0, lf⟩ := zle_f (p := p) (T := T) hl F0.1
          have hz2 : zrun p (n + 1) T = zrun p n ((zle' p T, zfre' p T (zle' p T)) :: T) := by
            show (if _ then _ else _) = _
            rw [if_neg q, if_pos hl]
          refine e_tell hv hr Gm hI hC ⟨l0, hl⟩ lf (fun m' f' C' => ?_)
          exact en _ (by omega) (by rw [hz, hz2]) (zTI_c hv hI ⟨l0, hl⟩ lf).1 m' C' (fun o i w => by rw [f' o i w]; exact hf o i w)
        · have hz2 : zrun p (n + 1) T = if (zbk T).length = 0 then (-2, []) else zrun p n (zbk T) := by
            show (if _ then _ else _) = _
            rw [if_neg q, if_neg hl]
          refine e_turnBack (μ0 := μ) hv (fun m' f' hb => zy0 ?_) (fun m' f' hb C' => zy1 ?_) hI hC hf
          · rw [if_pos hb] at hz2
            exact hk m' (-2) [] (by rw [hz, hz2]) f' (fun w => absurd w (by decide))
          · rw [if_neg hb] at hz2
            exact en _ (by omega) (by rw [hz, hz2]) (zbk_TI hI) m' C' f'
      · rw [e32, Gm.1] at q
        have hz2 : zrun p (n + 1) T = ((n : Int), T) := by
          show (if _ then _ else _) = _
          rw [if_pos q]
        have := hk m n T (by rw [hz, hz2]) hf (fun _ => ⟨hI, hC⟩)
        rw [if_pos (by omega)] at this
        exact this
  refine V_X5_find ?_
  have e62 : z_st (z_st (z_st μ 31 0 0) 31 4 0) 31 3 0 6 2 = pF p := by
    rw [z_st_ne (by decide), z_st_ne (by decide), z_st_ne (by decide)]
    exact G.1
  rw [e62]
  refine e_putRoot (ac := pa p) ho hr F0.2 (fun m fm P => ?_)
  have z31 : m 31 0 = 0 ∧ m 31 4 = 0 ∧ m 31 3 = 0 := by
    rw [fm 31 0 (by omega), fm 31 4 (by omega), fm 31 3 (by omega)]
    simp only [z_st_rd, Int.reduceEq, and_false, and_self, if_false, if_true]
  have := loop 3000 [] m (by omega) rfl trivial ⟨⟨?_, fun f _ => ?_⟩, ⟨?_, fun f _ => ?_⟩, z31.2.2, trivial, P⟩ (fun o i q => by rw [fm o i (by omega), z_st_ne (by omega), z_st_ne (by omega), z_st_ne (by omega)])
  · exact this
  · rw [z31.1]
    exact ⟨by decide, by decide⟩
  · rw [z31.1]
    exact zbt_0
  · rw [z31.2.1]
    exact ⟨by decide, by decide⟩
  · rw [z31.2.1]
    exact zbt_0
end FI

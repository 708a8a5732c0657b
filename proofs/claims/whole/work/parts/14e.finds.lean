/-! THE FIRST NET: the reference finds -/
section FI
variable {a b e h k v r f s x y w o : Int} {c : Nat} {p : zP} {U : zTT} {L : List Int} {Q : Int → zP} {μ0 : z_Mem} {Kn : z_Mem → Prop}
theorem z_noo {μ : z_Mem} {o i v q j : Int} (h : ¬ (q = o ∧ j = i)) : z_st μ o i v q j = μ q j := if_neg h
theorem zfS_t {μ ν m : z_Mem} (h : zfS μ ν) (h2 : zfS ν m) : zfS μ m := fun o i a b c d => (h2 o i a b c d).trans (h o i a b c d)
theorem zMT_put {m m' : z_Mem} {T : zTT} {bb : Bool} (he : zto T e = 0) (h : zMT p m T) (h138 : ∀ i, m' 138 i = if i = e then (if bb = true then 1 else 2) else m 138 i) (h139 : ∀ f, 0 ≤ f → f < pF p → m' 139 f = zi (zin (pa p) (pr p) (zLl p ((e, bb) :: T)) f)) (h38 : m' 113 38 = (zLl p ((e, bb) :: T)).length + 1) (hl : zLy (pa p) (pr p) (m' 135) (m' 136) (m' 137) (zLl p ((e, bb) :: T))) : zMT p m' ((e, bb) :: T) := by
  refine ⟨fun i i0 i1 => ?_, h139, h38, hl⟩
  rw [h138 i]
  by_cases w : i = e
  · rw [if_pos w, w]
    exact (zto_e (x := (e, bb))).symm
  · rw [if_neg w, zto_ne (x := (e, bb)) w]
    exact h.1 i i0 i1
theorem zMT_drop {m m' : z_Mem} {T : zTT} {e : Int} (he : zto T e = 0) (h : zMT p m ((e, false) :: T)) (h138 : ∀ i, m' 138 i = if i = e then 0 else m 138 i) (hs : ∀ o i, o ≠ 138 → m' o i = m o i) : zMT p m' T := by
  have eL : zLl p ((e, false) :: T) = zLl p T := if_neg Bool.false_ne_true
  obtain ⟨a1, a2, a3, a4⟩ := h
  rw [eL] at a2 a3 a4
  refine ⟨fun i i0 i1 => ?_, fun f f0 f1 => by rw [hs 139 f (by decide)]; exact a2 f f0 f1, by rw [hs 113 38 (by decide)]; exact a3, ?_⟩
  · rw [h138 i]
    by_cases w : i = e
    · rw [if_pos w, w, he]
    · rw [if_neg w, a1 i i0 i1, zto_ne (x := (e, false)) w]
  · rw [show m' 135 = m 135 from funext fun i => hs 135 i (by decide), show m' 136 = m 136 from funext fun i => hs 136 i (by decide), show m' 137 = m 137 from funext fun i => hs 137 i (by decide)]
    exact a4
theorem zMT_un {m : z_Mem} {T : zTT} {e k f : Int} (hz0 : zto T e = 0) (eL : zLl p ((e, true) :: T) = k :: zLl p T) (hf : f = pa p k / 4) (t4 : zin (pa p) (pr p) (zLl p T) f = false) (h : zMT p m ((e, true) :: T)) : zMT p (z_st (z_st (z_st m 139 f 0) 113 38 (((z_st m 139 f 0) 113 38) - 1)) 138 e 2) ((e, false) :: T) := by
  have eLf : zLl p ((e, false) :: T) = zLl p T := if_neg Bool.false_ne_true
  obtain ⟨a1, a2, a3, a4⟩ := h
  rw [eL] at a2 a3 a4
  refine ⟨fun i i0 i1 => ?_, fun i i0 i1 => ?_, ?_, ?_⟩
  · by_cases w : i = e
    · rw [w, z_st_eq]
      exact (zto_e (x := (e, false))).symm
    · rw [z_st_ni w, z_st_ne (by decide), z_st_ne (by decide), a1 i i0 i1, zto_ne (x := (e, true)) w, zto_ne (x := (e, false)) w]
  · rw [eLf, z_st_ne (by decide), z_st_ne (by decide)]
    by_cases w : i = f
    · rw [w, z_st_eq, t4]
      rfl
    · rw [z_st_ni w, a2 i i0 i1]
      show zi (decide (i = pa p k / 4) || zin (pa p) (pr p) (zLl p T) i) = _
      rw [decide_eq_false (by rw [← hf]; exact w)]
      rfl
  · rw [eLf, z_st_ne (by decide), z_st_eq, z_st_ne (by decide), a3, List.length_cons]
    omega
  · rw [eLf]
    exact a4.2
theorem e12_finds (hv : zV p) (hr : 0 ≤ pr p ∧ pr p < pF p) : ∀ (N n : Nat) (T : zTT) (μ : z_Mem) (D : Nat) (K : Int → z_Mem → Prop), n ≤ N → n ≤ 3000 → 64 ≤ D + T.length → zTI p T → zGm μ (pF p) (pa p) (pe p) (pq p) → zMT p μ T → μ 113 37 = 3000 - n → (∀ m c U, 0 ≤ c → zrun p n T = (c, U) → zfS μ m → zTI p U → zMT p m U → m 113 37 = 3000 - c → K 1 m) → (∀ m (n' : Nat), n' < n → zrun p n T = zback p n' T → zfS μ m → zMT p m T → m 113 37 = 3000 - n' → K 0 m) → (∀ m, (zrun p n T).1 = -3 → zfS μ m → zMT p m T → m 113 37 = 3001 → K 0 m) → z_ci m_X12_finds [(2, 113)] μ D K := by
  have sk := zV_sk hv
  have F0 : 0 ≤ pF p ∧ pF p ≤ 30 := sk.1
  intro N
  induction N with
  | zero =>
    intro n T μ D K hn h3000 hD hI G hM h37 h1 h0 h3
    obtain rfl : n = 0 := by omega
    have ln := (zTI_len hv hI).1
    obtain ⟨d, rfl⟩ : ∃ d, D = d + 1 := ⟨D - 1, by omega⟩
    refine V_X12_finds ⟨(by first | omega | exact ⟨by omega, by omega⟩), fun q => ?_, fun q => ?_⟩
    · rw [z_st_eq, h37] at q
      omega
    · exact h3 _ rfl (fun o i q1 q2 q3 q4 => z_noo (by omega)) ⟨fun i i0 i1 => by rw [z_st_ne (by decide)]; exact hM.1 i i0 i1, fun i i0 i1 => by rw [z_st_ne (by decide)]; exact hM.2.1 i i0 i1, by rw [z_st_ni (by decide)]; exact hM.2.2.1, hM.2.2.2⟩ (by rw [z_st_eq, h37]; omega)
  | succ N ih =>
    intro n T μ D K hn h3000 hD hI G hM h37 h1 h0 h3
    have ln := (zTI_len hv hI).1
    obtain ⟨d, rfl⟩ : ∃ d, D = d + 1 := ⟨D - 1, by omega⟩
    obtain ⟨g, rfl⟩ : ∃ g, d = g + 2 := ⟨d - 2, by omega⟩
    rcases Nat.eq_zero_or_pos n with hn0 | hnp
    · subst hn0
      refine V_X12_finds ⟨(by first | omega | exact ⟨by omega, by omega⟩), fun q => ?_, fun q => ?_⟩
      · rw [z_st_eq, h37] at q
        omega
      · exact h3 _ rfl (fun o i q1 q2 q3 q4 => z_noo (by omega)) ⟨fun i i0 i1 => by rw [z_st_ne (by decide)]; exact hM.1 i i0 i1, fun i i0 i1 => by rw [z_st_ne (by decide)]; exact hM.2.1 i i0 i1, by rw [z_st_ni (by decide)]; exact hM.2.2.1, hM.2.2.2⟩ (by rw [z_st_eq, h37]; omega)
    · obtain ⟨n, rfl⟩ : ∃ k, n = k + 1 := ⟨n - 1, by omega⟩
      have zr1 : zrun p (n + 1) T = (if ((zLl p T).length : Int) + 1 = pF p then ((n : Int), T) else if zle' p T < 2 * pF p then zrun p n ((zle' p T, zfre' p T (zle' p T)) :: T) else zback p n T) := rfl
      generalize hν : z_st μ 113 37 (μ 113 37 + 1) = ν
      have fν : ∀ o i, ¬ (o = 113 ∧ i = 37) → ν o i = μ o i := fun o i q => by rw [← hν]; exact z_noo q
      have ν37 : ν 113 37 = 3000 - n := by rw [← hν, z_st_eq, h37]; omega
      have sν : zfS μ ν := fun o i q1 q2 q3 q4 => fν o i (by omega)
      have Gν : zGm ν (pF p) (pa p) (pe p) (pq p) := zGm_fr G (fun o i q => fν o i (by omega))
      have o135 : ν 135 = μ 135 := funext fun i => fν 135 i (by omega)
      have o136 : ν 136 = μ 136 := funext fun i => fν 136 i (by omega)
      have o137 : ν 137 = μ 137 := funext fun i => fν 137 i (by omega)
      have Mν : zMT p ν T := ⟨fun e e0 e1 => by rw [fν 138 e (by omega)]; exact hM.1 e e0 e1, fun f f0 f1 => by rw [fν 139 f (by omega)]; exact hM.2.1 f f0 f1, by rw [fν 113 38 (by omega)]; exact hM.2.2.1, by rw [o135, o136, o137]; exact hM.2.2.2⟩
      refine V_X12_finds ?_
      rw [hν, ν37, Mν.2.2.1, Gν.1]
      refine ⟨(by first | omega | exact ⟨by omega, by omega⟩), fun _ => ⟨fun q => ?_, fun q => ?_⟩, fun q => by omega⟩
      · rw [if_neg q] at zr1
        refine e12_leastEdge hv Gν Mν.1 Mν.2.1 (fun hl => ⟨fun _ => ?_, fun w => ?_⟩) (fun hl => ⟨fun w => absurd rfl w, fun _ => ?_⟩)
        · rw [if_pos hl] at zr1
          generalize hee : zle' p T = e at *
          obtain ⟨l0, lf⟩ : 0 ≤ e ∧ zfrT p T e = true := by rw [← hee]; exact zle_f (by rw [hee]; exact hl) F0.1
          have he : 0 ≤ e ∧ e < 2 * pF p := ⟨l0, hl⟩
          obtain ⟨hIt, hz0⟩ := zTI_c (b' := true) hv hI he lf
          obtain ⟨hIf, _⟩ := zTI_c (b' := false) hv hI he lf
          have t3 : zin (pa p) (pr p) (zLl p T) (zsdL p (zLl p T) e / 4) = true := hIt.1.2.2.1
          have t4 : zin (pa p) (pr p) (zLl p T) (pa p (zsdL p (zLl p T) e) / 4) = false := hIt.1.2.2.2
          obtain ⟨d1, d2, d3, d4⟩ := zsdL_r (L := zLl p T) hv he
          have tr := (zTI_all hv hI).1
          have in30 := zin_30 hv hI hr
          have eLf : zLl p ((e, false) :: T) = zLl p T := if_neg Bool.false_ne_true
          have eLt : zLl p ((e, true) :: T) = zsdL p (zLl p T) e :: zLl p T := if_pos rfl
          generalize hkk : zsdL p (zLl p T) e = k at t3 t4 d1 d2 d3 eLt
          obtain ⟨s1, s2, s3, s4, s5, s6⟩ := sk.2.1 _ d1.1 d1.2
          have ne : k / 4 ≠ pa p k / 4 := fun w => s3 w.symm
          have again : ∀ (n1 : Nat) (m21 : z_Mem), n1 ≤ n → zMT p m21 ((e, false) :: T) → zfS μ m21 → m21 113 37 = 3000 - n1 → zrun p (n + 1) T = zrun p n1 ((e, false) :: T) → z_ci m_X12_finds [(2, 113)] m21 (g + 2) (fun x29 m27 => (x29 = 0 → ((0 : Int) ≤ e ∧ e < 60) ∧ (K 0 (z_st m27 138 e 0))) ∧ (¬ x29 = 0 → K 1 m27)) := fun n1 m21 hn1 hM1 hS1 h371 hz1 => by
            refine ih n1 ((e, false) :: T) m21 (g + 2) _ (by omega) (by omega) (by rw [List.length_cons]; omega) hIf (zGm_fr G (fun o i w => hS1 o i (by omega) (by omega) (by omega) (by omega))) hM1 h371 (fun m c U hc hz hS hI' hM' h' => ⟨fun w => absurd w (by decide), fun _ => h1 m c U hc (by rw [hz1]; exact hz) (zfS_t hS1 hS) hI' hM' h'⟩) (fun m n' hn' hz hS hM' h' => ⟨fun _ => ⟨(by first | omega | exact ⟨by omega, by omega⟩), h0 (z_st m 138 e 0) n' (by omega) (by rw [hz1, hz]; rfl) (fun o i a1 a2 a3 a4 => by rw [z_st_ne a1]; exact zfS_t hS1 hS o i a1 a2 a3 a4) (zMT_drop hz0 hM' (fun i => by rw [z_st_rd]; simp) (fun o i q => z_st_ne q)) (by rw [z_st_ne (by decide)]; exact h')⟩, fun w => absurd rfl w⟩) (fun m hz hS hM' h' => ⟨fun _ => ⟨(by first | omega | exact ⟨by omega, by omega⟩), h3 (z_st m 138 e 0) (by rw [hz1]; exact hz) (fun o i a1 a2 a3 a4 => by rw [z_st_ne a1]; exact zfS_t hS1 hS o i a1 a2 a3 a4) (zMT_drop hz0 hM' (fun i => by rw [z_st_rd]; simp) (fun o i q => z_st_ne q)) (by rw [z_st_ne (by decide)]; exact h')⟩, fun w => absurd rfl w⟩)
          have tail : ∀ (f : Int) (m18 : z_Mem), f = pa p k / 4 → m18 = z_st (z_st (z_st ν 135 (pa p k / 4) (ν 135 (k / 4) + zsx (zwy (ν 137) k))) 136 (pa p k / 4) (ν 136 (k / 4) + zsy (zwy (ν 137) k))) 137 (pa p k / 4) (ztn (pa p) (ν 137) k) → z_ci m_X12_isTaken [(2, 113), (0, m18 135 f), (0, m18 136 f)] m18 (g + 2) (fun x22 m20 => (¬ x22 = 0 → ((0 : Int) ≤ e ∧ e < 60) ∧ ((3000 < (z_st m20 138 e 2) 113 37 → ((0 : Int) ≤ e ∧ e < 60) ∧ (K 0 (z_st (z_st m20 138 e 2) 138 e 0))) ∧ ((z_st m20 138 e 2) 113 37 ≤ 3000 → z_ci m_X12_finds [(2, 113)] (z_st m20 138 e 2) (g + 2) (fun x29 m27 => (x29 = 0 → ((0 : Int) ≤ e ∧ e < 60) ∧ (K 0 (z_st m27 138 e 0))) ∧ (¬ x29 = 0 → K 1 m27))))) ∧ (x22 = 0 → ((0 : Int) ≤ e ∧ e < 60) ∧ (((0 : Int) ≤ f ∧ f < 30) ∧ (z_I (((z_st (z_st m20 138 e 1) 139 f 1) 113 38) + 1) ∧ (z_ci m_X12_finds [(2, 113)] (z_st (z_st (z_st m20 138 e 1) 139 f 1) 113 38 (((z_st (z_st m20 138 e 1) 139 f 1) 113 38) + 1)) (g + 2) (fun x34 m32 => (x34 = 0 → ((0 : Int) ≤ f ∧ f < 30) ∧ (z_I (((z_st m32 139 f 0) 113 38) - 1) ∧ (((0 : Int) ≤ e ∧ e < 60) ∧ ((3000 < (z_st (z_st (z_st m32 139 f 0) 113 38 (((z_st m32 139 f 0) 113 38) - 1)) 138 e 2) 113 37 → ((0 : Int) ≤ e ∧ e < 60) ∧ (K 0 (z_st (z_st (z_st (z_st m32 139 f 0) 113 38 (((z_st m32 139 f 0) 113 38) - 1)) 138 e 2) 138 e 0))) ∧ ((z_st (z_st (z_st m32 139 f 0) 113 38 (((z_st m32 139 f 0) 113 38) - 1)) 138 e 2) 113 37 ≤ 3000 → z_ci m_X12_finds [(2, 113)] (z_st (z_st (z_st m32 139 f 0) 113 38 (((z_st m32 139 f 0) 113 38) - 1)) 138 e 2) (g + 2) (fun x29 m27 => (x29 = 0 → ((0 : Int) ≤ e ∧ e < 60) ∧ (K 0 (z_st m27 138 e 0))) ∧ (¬ x29 = 0 → K 1 m27))))))) ∧ (¬ x34 = 0 → K 1 m32))))))) := by
            intro f m18 hf h18
            have f18 : ∀ o i, (o < 135 ∨ 137 < o) → m18 o i = ν o i := fun o i w => by rw [h18, z_st_ne (by omega), z_st_ne (by omega), z_st_ne (by omega)]
            have p18 : ∀ i, i ≠ f → m18 135 i = ν 135 i ∧ m18 136 i = ν 136 i ∧ m18 137 i = ν 137 i := fun i hi => by
              rw [hf] at hi
              rw [h18]
              exact ⟨by rw [z_st_ne (by decide), z_st_ne (by decide), z_st_ni hi], by rw [z_st_ne (by decide), z_st_ni hi, z_st_ne (by decide)], by rw [z_st_ni hi, z_st_ne (by decide), z_st_ne (by decide)]⟩
            have x18 : m18 135 f = ν 135 (k / 4) + zsx (zwy (ν 137) k) := by rw [h18, hf, z_st_ne (by decide), z_st_ne (by decide), z_st_eq]
            have y18 : m18 136 f = ν 136 (k / 4) + zsy (zwy (ν 137) k) := by rw [h18, hf, z_st_ne (by decide), z_st_eq]
            have u18 : m18 137 f = ztn (pa p) (ν 137) k := by rw [h18, hf, z_st_eq]
            have ly18 : zLy (pa p) (pr p) (m18 135) (m18 136) (m18 137) (zLl p T) := zLy_ag tr Mν.2.2.2 (fun i hi => p18 i (fun w => by rw [w, hf, t4] at hi; cases hi))
            have S18 : zfS μ m18 := fun o i a1 a2 a3 a4 => by rw [f18 o i a3]; exact sν o i a1 a2 a3 a4
            obtain ⟨pk1, pk2, pk3⟩ := zLy_po tr Mν.2.2.2 _ t3
            have ez : zfre' p T e = !ztk p (zLl p T) (m18 135 f) (m18 136 f) := by
              rw [x18, y18]
              unfold zfre' zkX zkY zwy
              rw [hkk, pk1, pk2, pk3]
            have rf : 0 ≤ f ∧ f < pF p := by rw [hf]; omega
            refine e12_taken F0 (by rw [f18 113 21 (by omega)]; exact Gν.1) in30 tr (fun i i0 i1 => by rw [f18 139 i (by omega)]; exact Mν.2.1 i i0 i1) ly18 ?_
            cases hz : ztk p (zLl p T) (m18 135 f) (m18 136 f) with
            | true =>
              rw [hz] at ez
              have ez : zfre' p T e = false := ez
              rw [ez] at zr1
              refine ⟨fun _ => ⟨(by first | omega | exact ⟨by omega, by omega⟩), fun w => ?_, fun _ => ?_⟩, fun w => absurd w (by decide)⟩
              · rw [z_st_ne (by decide), f18 113 37 (by omega), ν37] at w
                omega
              · refine again n (z_st m18 138 e 2) (Nat.le_refl _) (zMT_put (bb := false) hz0 ⟨fun i i0 i1 => by rw [f18 138 i (by omega)]; exact Mν.1 i i0 i1, fun i i0 i1 => by rw [f18 139 i (by omega)]; exact Mν.2.1 i i0 i1, by rw [f18 113 38 (by omega)]; exact Mν.2.2.1, ly18⟩ (fun i => by rw [z_st_rd]; simp) (fun i i0 i1 => by rw [z_st_ne (by decide), f18 139 i (by omega), eLf]; exact Mν.2.1 i i0 i1) (by rw [z_st_ne (by decide), f18 113 38 (by omega), eLf]; exact Mν.2.2.1) (by rw [eLf]; exact ly18)) (fun o i a1 a2 a3 a4 => by rw [z_st_ne a1]; exact S18 o i a1 a2 a3 a4) (by rw [z_st_ne (by decide), f18 113 37 (by omega)]; exact ν37) zr1
            | false =>
              rw [hz] at ez
              have ez : zfre' p T e = true := ez
              rw [ez] at zr1
              have e38 : z_st (z_st m18 138 e 1) 139 f 1 113 38 = (zLl p T).length + 1 := by rw [z_st_ne (by decide), z_st_ne (by decide), f18 113 38 (by omega)]; exact Mν.2.2.1
              have lb := zTr_le sk hr tr
              refine ⟨fun w => absurd rfl w, fun _ => ⟨(by first | omega | exact ⟨by omega, by omega⟩), (by first | omega | exact ⟨by omega, by omega⟩), by rw [e38]; exact ⟨by omega, by omega⟩, ?_⟩⟩
              rw [e38]
              have S21 : zfS μ (z_st (z_st (z_st m18 138 e 1) 139 f 1) 113 38 ((zLl p T).length + 1 + 1)) := fun o i a1 a2 a3 a4 => by rw [z_noo (by omega), z_st_ne a2, z_st_ne a1]; exact S18 o i a1 a2 a3 a4
              refine ih n ((e, true) :: T) _ (g + 2) _ (by omega) (by omega) (by rw [List.length_cons]; omega) hIt (zGm_fr G (fun o i w => S21 o i (by omega) (by omega) (by omega) (by omega))) (zMT_put (bb := true) (m := ν) hz0 Mν (fun i => ?_) (fun i i0 i1 => ?_) ?_ ?_) ?_ (fun m c U hc hz hS hI' hM' h' => ⟨fun w => absurd w (by decide), fun _ => h1 m c U hc (by rw [zr1]; exact hz) (zfS_t S21 hS) hI' hM' h'⟩) (fun m n' hn' hz hS hM' h' => ⟨fun _ => ⟨(by first | omega | exact ⟨by omega, by omega⟩), ?_, (by first | omega | exact ⟨by omega, by omega⟩), fun w => ?_, fun _ => ?_⟩, fun w => absurd rfl w⟩) (fun m hz hS hM' h' => ⟨fun _ => ⟨(by first | omega | exact ⟨by omega, by omega⟩), ?_, (by first | omega | exact ⟨by omega, by omega⟩), fun _ => ⟨(by first | omega | exact ⟨by omega, by omega⟩), ?_⟩, fun w => ?_⟩, fun w => absurd rfl w⟩)
              · rw [z_st_ne (by decide), z_st_ne (by decide)]
                by_cases w : i = e
                · rw [w, z_st_eq, if_pos rfl, if_pos rfl]
                · rw [z_st_ni w, if_neg w, f18 138 i (by omega)]
              · rw [eLt, z_st_ne (by decide)]
                show _ = zi (decide (i = pa p k / 4) || zin (pa p) (pr p) (zLl p T) i)
                by_cases w : i = f
                · rw [w, z_st_eq, decide_eq_true hf]
                  rfl
                · rw [z_st_ni w, z_st_ne (by decide), f18 139 i (by omega), decide_eq_false (by rw [← hf]; exact w)]
                  exact Mν.2.1 i i0 i1
              · rw [z_st_eq, eLt, List.length_cons]
                omega
              · rw [eLt]
                have q1 := p18 (k / 4) (by rw [hf]; exact ne)
                have ew : zwy (m18 137) k = zwy (ν 137) k := by unfold zwy; rw [q1.2.2]
                have eu : ztn (pa p) (m18 137) k = ztn (pa p) (ν 137) k := by unfold ztn; rw [ew]
                show (m18 135 (pa p k / 4) = m18 135 (k / 4) + zsx (zwy (m18 137) k) ∧ m18 136 (pa p k / 4) = m18 136 (k / 4) + zsy (zwy (m18 137) k) ∧ m18 137 (pa p k / 4) = ztn (pa p) (m18 137) k) ∧ zLy (pa p) (pr p) (m18 135) (m18 136) (m18 137) (zLl p T)
                rw [ew, eu, q1.1, q1.2.1, ← hf]
                exact ⟨⟨x18, y18, u18⟩, ly18⟩
              · rw [z_st_ni (by decide), z_st_ne (by decide), z_st_ne (by decide), f18 113 37 (by omega)]
                exact ν37
              · have a3 := hM'.2.2.1
                rw [eLt, List.length_cons] at a3
                rw [z_st_ne (by decide), a3]
                exact ⟨by omega, by omega⟩
              · rw [z_st_ne (by decide), z_st_ni (by decide), z_st_ne (by decide), h'] at w
                omega
              · have eb : zrun p (n + 1) T = zrun p n' ((e, false) :: T) := by rw [zr1, hz]; rfl
                refine again n' _ (by omega) (zMT_un hz0 eLt hf (by rw [hf]; exact t4) hM') (fun o i a1 a2 a3 a4 => ?_) ?_ eb
                · rw [z_st_ne a1, z_noo (by omega), z_st_ne a2]
                  exact zfS_t S21 hS o i a1 a2 a3 a4
                · rw [z_st_ne (by decide), z_st_ni (by decide), z_st_ne (by decide)]
                  exact h'
              · have a3 := hM'.2.2.1
                rw [eLt, List.length_cons] at a3
                rw [z_st_ne (by decide), a3]
                exact ⟨by omega, by omega⟩
              · refine h3 _ (by rw [zr1]; exact hz) (fun o i a1 a2 a3 a4 => ?_) (zMT_drop hz0 (zMT_un hz0 eLt hf (by rw [hf]; exact t4) hM') (fun i => by rw [z_st_rd]; simp) (fun o i q => z_st_ne q)) ?_
                · rw [z_st_ne a1, z_st_ne a1, z_noo (by omega), z_st_ne a2]
                  exact zfS_t S21 hS o i a1 a2 a3 a4
                · rw [z_st_ne (by decide), z_st_ne (by decide), z_st_ni (by decide), z_st_ne (by decide)]
                  exact h'
              · rw [z_st_ne (by decide), z_st_ni (by decide), z_st_ne (by decide), h'] at w
                omega
          obtain ⟨r1, r2, w3⟩ := zV_e hv he
          obtain ⟨v1, v2, v3, v4, v5, v6⟩ := sk.2.1 _ r1.1 r1.2
          have bd := zLy_b tr Mν.2.2.2 _ t3
          have lb := zTr_le sk hr tr
          have g123 : ν 123 k = pa p k / 4 := (Gν.2.2.1 k d1.1 d1.2).1
          have g127 : ν 127 e = pq p e := Gν.2.2.2 e he.1 he.2
          have t18 := tail (pa p k / 4) _ rfl rfl
          refine e12_first Gν w3 r1.1 he ⟨(by first | omega | exact ⟨by omega, by omega⟩), ?_⟩
          rw [Mν.2.1 _ (by omega) (by omega), g127]
          unfold zsdL at hkk
          cases i1 : zin (pa p) (pr p) (zLl p T) (pq p e / 4) with
          | true =>
            rw [if_pos i1] at hkk
            refine ⟨fun w => absurd w (by decide), fun _ => ⟨(by first | omega | exact ⟨by omega, by omega⟩), (by first | omega | exact ⟨by omega, by omega⟩), ?_⟩⟩
            rw [hkk]
            refine e12_rolls sk Gν d1 bd.2.2 (by omega) (by omega) ?_
            rw [g123]
            exact ⟨(by first | omega | exact ⟨by omega, by omega⟩), (by first | omega | exact ⟨by omega, by omega⟩), t18⟩
          | false =>
            rw [if_neg (by rw [i1]; decide)] at hkk
            have m123 : ν 123 (pq p e) = pa p (pq p e) / 4 := (Gν.2.2.1 _ r1.1 r1.2).1
            have m124 : ν 124 (pq p e) = pa p (pq p e) % 4 := (Gν.2.2.1 _ r1.1 r1.2).2.1
            refine ⟨fun _ => ⟨(by first | omega | exact ⟨by omega, by omega⟩), V_X12_mate ?_⟩, fun w => absurd rfl w⟩
            rw [m123, m124, show 4 * (pa p (pq p e) / 4) + pa p (pq p e) % 4 = k by omega]
            refine ⟨(by first | omega | exact ⟨by omega, by omega⟩), (by first | omega | exact ⟨by omega, by omega⟩), (by first | omega | exact ⟨by omega, by omega⟩), (by first | omega | exact ⟨by omega, by omega⟩), (by first | omega | exact ⟨by omega, by omega⟩), ?_⟩
            refine e12_rolls sk Gν d1 bd.2.2 (by omega) (by omega) ?_
            rw [g123]
            exact ⟨(by first | omega | exact ⟨by omega, by omega⟩), (by first | omega | exact ⟨by omega, by omega⟩), t18⟩
        · have := (zle_f (p := p) (T := T) hl F0.1).1
          omega
        · rw [if_neg hl] at zr1
          exact h0 ν n (by omega) zr1 sν Mν ν37
      · rw [if_pos q] at zr1
        exact h1 ν n T (by omega) zr1 sν hI Mν ν37
end FI

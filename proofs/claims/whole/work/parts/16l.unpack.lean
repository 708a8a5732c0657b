/-! GLUINGS: the class unpacks one -/
def zuq (u : Int → Int) (k : Int) : Int → Int := fun t => if t < k ∧ u t < k then u t else -1
section UP
variable {N a b c k : Int} {A u : Int → Int} {p : zP} {μ : z_Mem} {d : Nat} {K : Int → z_Mem → Prop} {Kn : z_Mem → Prop}
theorem zuq_1 {t : Int} (h : t < k ∧ u t < k) : zuq u k t = u t := by unfold zuq; rw [if_pos h]
theorem zuq_0 {t : Int} (h : ¬ (t < k ∧ u t < k)) : zuq u k t = -1 := by unfold zuq; rw [if_neg h]
theorem e_lastOpen (hu : zFu N A u) (hn : 0 < N ∧ N ≤ 22) (hk0 : 0 ≤ k ∧ k < N) (hlt : u k < k) (hm : ∀ t, 0 ≤ t → t < N → μ 45 t = zuq u k t) (hk : ∀ m, (∀ o x, o ≠ 45 → m o x = μ o x) → (∀ t, 0 ≤ t → t < N → m 45 t = zuq u (k + 1) t) → Kn m) : z_cn m_X1_glueWithLastOpen [(2, 44), (0, zwd u N.toNat), (0, k)] μ d Kn := by
  obtain ⟨⟨v1, v2, v3, v4, v5, v6, v7⟩, va⟩ := hu
  have uk := v3 k hk0.1 hk0.2
  obtain ⟨iu, inu⟩ := v5 k hk0.1 hk0.2 uk
  have w0 := (zwd_n (u := u) N.toNat).1
  have key : ∀ (n : Nat) (o : Int), o = u k + n → o < k → z_rn m_X1_glueWithLastOpen 4 [some (2, 44), some (0, zwd u N.toNat), some (0, k), some (0, o)] μ d Kn := by
    intro n
    induction n with
    | zero =>
      intro o ho hok
      obtain rfl : o = u k := by omega
      have e1 : μ 45 (u k) = -1 := by rw [hm _ uk (by omega), zuq_0 (by rw [iu]; omega)]
      have bit : ¬ ((zwd u N.toNat / 2 ^ (u k).toNat) % 2 = 0) := by
        rw [zbt_z w0, zwd_b _ _ uk, decide_eq_true (show u k < (N.toNat : Int) by omega), decide_eq_true (show u k < u (u k) by omega)]
        decide
      refine V_X1_glueWithLastOpen_4 ?_
      rw [e1]
      refine ⟨fun q => by omega, fun q => ⟨(by first | omega | exact ⟨by omega, by omega⟩), fun z => absurd rfl z, fun _ => ⟨(by first | omega | exact ⟨by omega, by omega⟩), w0, fun z => absurd z bit, fun _ => ⟨(by first | omega | exact ⟨by omega, by omega⟩), (by first | omega | exact ⟨by omega, by omega⟩), hk _ (fun o x y => by rw [z_st_ne y, z_st_ne y]) (fun t t0 t1 => ?_)⟩⟩⟩⟩
      by_cases y : t = u k
      · rw [y, z_st_eq, zuq_1 (by rw [iu]; omega), iu]
      · rw [z_st_ni y]
        by_cases y2 : t = k
        · rw [y2, z_st_eq, zuq_1 (by omega)]
        · rw [z_st_ni y2, hm t t0 t1]
          have ut := v3 t t0 t1
          have iut := (v5 t t0 t1 ut).1
          have nk : u t ≠ k := fun z => y (by rw [← z, iut])
          by_cases y3 : t < k ∧ u t < k
          · rw [zuq_1 y3, zuq_1 (by omega)]
          · rw [zuq_0 y3, zuq_0 (by omega)]
    | succ n ih =>
      intro o ho hok
      have uo := v3 o (by omega) (by omega)
      have nc := v7 (u k) o uk (by omega) (by rw [iu]; exact hok) (by omega) uo
      rw [iu] at nc
      have e1 : ¬ μ 45 o = -1 := by
        rw [hm o (by omega) (by omega), zuq_1 ⟨hok, nc.2⟩]
        omega
      refine V_X1_glueWithLastOpen_4 ⟨fun q => by omega, fun q => ⟨(by first | omega | exact ⟨by omega, by omega⟩), fun z => ⟨(by first | omega | exact ⟨by omega, by omega⟩), ?_⟩, fun z => absurd z e1⟩⟩
      rw [show o + (-1) = o - 1 by omega]
      exact ih (o - 1) (by omega) (by omega)
  exact V_X1_glueWithLastOpen ⟨(by first | omega | exact ⟨by omega, by omega⟩), key (k - 1 - u k).toNat (k - 1) (by omega) (by omega)⟩
theorem e_unpack (hw : zWo p) (hN : zRN p ≤ 22) (h64 : z64 p) (hg : zKg μ p) (k1 : ¬ μ 44 0 = 0) (h0 : ¬ (0 ≤ a ∧ a < ((zgL p).length : Int)) → K 0 μ) (h1 : 0 ≤ a → a < ((zgL p).length : Int) → ∀ m, (∀ o x, o ≠ 45 → m o x = μ o x) → (∀ t, 0 ≤ t → t < zRN p → m 45 t = zlat (zgL p) a.toNat t) → K 1 m) : z_ci m_X1_unpack [(2, 44), (0, a)] μ (d + 2) K := by
  obtain ⟨_, _, g1, g2, g3⟩ := hg k1
  have l64 := h64 hw hN
  have hn : 0 < zRN p ∧ zRN p ≤ 22 := ⟨by have := hw.1; show 0 < 2 * pF p + 2; omega, hN⟩
  refine V_X1_unpack ?_
  rw [g2]
  refine ⟨fun q => h0 (by omega), fun q => ⟨fun q2 => ?_, fun q2 => h0 (by omega)⟩⟩
  have hu := zgL_el hw _ (zlat_mem (zgL p) a.toNat (by omega))
  have wd : μ 46 a = zwd (zlat (zgL p) a.toNat) (zRN p).toNat := by
    have := g3 a.toNat (by omega)
    rw [show ((a.toNat : Nat) : Int) = a by omega] at this
    exact this
  have fin := h1 q q2
  generalize zlat (zgL p) a.toNat = u at hu wd fin
  generalize zRN p = N at hn hu wd fin g1
  have w0 := (zwd_n (u := u) N.toNat).1
  obtain ⟨⟨v1, v2, v3, v4, v5, v6, v7⟩, va⟩ := id hu
  have two : ∀ k, 0 ≤ k → k ≤ N → ∀ m : z_Mem, (∀ o x, o ≠ 45 → m o x = μ o x) → (∀ t, 0 ≤ t → t < N → m 45 t = zuq u k t) → z_ri m_X1_unpack 39 [some (2, 44), some (0, a), some (0, k)] m (d + 2) K := by
    refine z_up (fun k k0 kN ih m hf hm => V_X1_unpack_39 ?_)
    rw [hf 44 3 (by decide), g1, hf 46 a (by decide), wd]
    refine ⟨fun z => ?_, fun z => ⟨(by first | omega | exact ⟨by omega, by omega⟩), (by first | omega | exact ⟨by omega, by omega⟩), w0, fun z2 => ⟨(by first | omega | exact ⟨by omega, by omega⟩), ih z m hf (fun t t0 t1 => ?_)⟩, fun z2 => ⟨(by first | omega | exact ⟨by omega, by omega⟩), ?_⟩⟩⟩
    · obtain rfl : k = N := by omega
      refine fin m hf (fun t t0 t1 => ?_)
      rw [hm t t0 t1, zuq_1 ⟨t1, (v4 t t0 t1).2⟩]
    · have z2' : zbt (zwd u N.toNat) k = true := by
        cases hz : zbt (zwd u N.toNat) k with
        | true => rfl
        | false => exact absurd ((zbt_z w0).mpr hz) z2
      rw [zwd_b _ _ k0, decide_eq_true (show k < (N.toNat : Int) by omega), Bool.true_and] at z2'
      have z3 := of_decide_eq_true z2'
      rw [hm t t0 t1]
      have ut := v3 t t0 t1
      have iut := (v5 t t0 t1 ut).1
      by_cases y : t = k
      · rw [y, zuq_0 (by omega), zuq_0 (by omega)]
      · have nk : u t < k → t < k + 1 → t < k := fun _ _ => by omega
        have nk2 : u t = k → ¬ t < k := fun w x => by
          have : u k = t := by rw [← w, iut]
          omega
        by_cases y3 : t < k ∧ u t < k
        · rw [zuq_1 y3, zuq_1 (by omega)]
        · rw [zuq_0 y3, zuq_0 (fun w => y3 ⟨by omega, by
            rcases (by omega : u t < k ∨ u t = k) with x | x
            · exact x
            · exact absurd (by omega) (nk2 x)⟩)]
    · have z2' := (zbt_z w0).mp z2
      rw [zwd_b _ _ k0, decide_eq_true (show k < (N.toNat : Int) by omega), Bool.true_and] at z2'
      have z3 := of_decide_eq_false z2'
      have := (v5 k k0 z (v3 k k0 z)).2
      exact e_lastOpen hu hn ⟨k0, z⟩ (by omega) hm (fun m2 f2 h2 => ⟨(by first | omega | exact ⟨by omega, by omega⟩), ih z m2 (fun o x y => by rw [f2 o x y]; exact hf o x y) h2⟩)
  have one : ∀ k, 0 ≤ k → k ≤ N → ∀ m : z_Mem, (∀ o x, o ≠ 45 → m o x = μ o x) → (∀ t, 0 ≤ t → t < k → m 45 t = -1) → z_ri m_X1_unpack 16 [some (2, 44), some (0, a), some (0, k)] m (d + 2) K := by
    refine z_up (fun k k0 kN ih m hf hm => V_X1_unpack_16 ?_)
    rw [hf 44 3 (by decide), g1]
    refine ⟨fun z => two 0 (by omega) (by omega) m hf (fun t t0 t1 => by rw [hm t t0 (by omega), zuq_0 (by omega)]), fun z => ⟨(by first | omega | exact ⟨by omega, by omega⟩), (by first | omega | exact ⟨by omega, by omega⟩), ih z _ (fun o x y => by rw [z_st_ne y]; exact hf o x y) (fun t t0 t1 => ?_)⟩⟩
    by_cases y : t = k
    · rw [y, z_st_eq]
    · rw [z_st_ni y]
      exact hm t t0 (by omega)
  exact one 0 (by omega) (by omega) μ (fun _ _ _ => rfl) (fun t t0 t1 => by omega)
theorem zKg_fr {m : z_Mem} (h : zKg μ p) (h0 : m 44 0 = μ 44 0) (h1 : m 44 1 = μ 44 1) (h3 : m 44 3 = μ 44 3) (h46 : ∀ i, m 46 i = μ 46 i) : zKg m p := by
  unfold zKg
  rw [h0, h1, h3]
  exact fun z => ⟨(h z).1, (h z).2.1, (h z).2.2.1, (h z).2.2.2.1, fun n hn => by rw [h46]; exact (h z).2.2.2.2 n hn⟩
theorem zBor_fr {m : z_Mem} (h : zBor μ p) (h1 : m 39 1 = μ 39 1) (hf : ∀ x i, 40 ≤ x → x ≤ 42 → m x i = μ x i) : zBor m p := by
  refine ⟨by rw [h1]; exact h.1, fun k k0 k1 => ?_⟩
  rw [hf 40 k (by decide) (by decide), hf 41 k (by decide) (by decide), hf 42 k (by decide) (by decide)]
  exact h.2 k k0 k1
theorem e_glued (hv : zV p) (hc : zCn' μ p) (h64 : z64 p) (hb : zBd μ p) (hg : zKg μ p) (hk : ∀ m, zfC μ m → zBd m p → zKg m p → K (zaGd p a b) m) : z_ci m_X11_glued [(2, 1), (0, a), (0, b)] μ (d + 8) K := by
  have F0 : 0 ≤ pF p ∧ pF p ≤ 30 := (zV_sk hv).1
  have un : zaGd p a b = if zpd (zWo p) = true ∧ 0 ≤ a ∧ 0 ≤ b ∧ b < zRN p then (if 22 < zRN p then -3 else if a < ((zgL p).length : Int) then zlat (zgL p) a.toNat b else -1) else -1 := rfl
  refine V_X11_glued (e_traceB hv hc hb (fun hw m1 f1 k1 b1 => zy1' ?_) (fun hw => zy0' ?_))
  · have c1 := zCn_fr (m := m1) hc (fun x i w => f1 x i (by omega) (by omega))
    have g1 : zKg m1 p := zKg_fr hg (f1 44 0 (by decide) (by decide)) (f1 44 1 (by decide) (by decide)) (f1 44 3 (by decide) (by decide)) (fun i => f1 46 i (by omega) (by decide))
    have F1 : zfC μ m1 := fun x i a b _ _ => f1 x i a b
    have ft : ∀ m, zfC m1 m → zfC μ m := fun m f x i a b c e => by rw [f x i a b c e]; exact f1 x i a b
    have nil : ¬ (0 ≤ a ∧ 0 ≤ b ∧ b < 2 * pF p + 2) → K (-1) m1 := fun w => by
      have := hk m1 F1 (fun _ _ => b1) g1
      rw [un, if_neg (fun z => w ⟨z.2.1, z.2.2.1, z.2.2.2⟩)] at this
      exact this
    rw [b1.1]
    refine ⟨fun q => nil (by omega), fun q => ⟨fun q2 => nil (by omega), fun q2 => ⟨fun q3 => ?_, fun q3 => nil (by omega)⟩⟩⟩
    have cond : zpd (zWo p) = true ∧ 0 ≤ a ∧ 0 ≤ b ∧ b < zRN p := ⟨zpd_t hw, q, q2, q3⟩
    rw [if_pos cond] at un
    refine e_gluB hv c1 h64 (fun _ _ => b1) g1 (fun x => absurd hw x) (fun _ h22 m f b g => ?_) (fun _ h22 m f b k g => ?_)
    · have := hk m (ft m f) (fun _ _ => b) g
      rw [un, if_pos h22] at this
      exact ⟨fun z => absurd z (by decide), fun _ => this⟩
    · have h22' : 2 * pF p + 2 ≤ 22 := h22
      rw [if_neg (by omega)] at un
      refine ⟨fun _ => e_unpack hw h22 h64 g k (fun nin => zy0' ?_) (fun _ a1 m2 f2 w2 => zy1' ⟨fun z => by omega, fun z => ⟨(by first | omega | exact ⟨by omega, by omega⟩), ?_⟩⟩), fun z => by omega⟩
      · have := hk m (ft m f) (fun _ _ => b) g
        rw [un, if_neg (by omega)] at this
        exact this
      · have := hk m2 (ft m2 (fun x i a b c e => by rw [f2 x i (by omega)]; exact f x i a b c e)) (fun _ _ => zBor_fr b (f2 39 1 (by decide)) (fun x i _ _ => f2 x i (by omega))) (zKg_fr g (f2 44 0 (by decide)) (f2 44 1 (by decide)) (f2 44 3 (by decide)) (fun i => f2 46 i (by decide)))
        rw [un, if_pos a1, ← w2 _ q2 q3] at this
        exact this
  · have := hk μ (fun _ _ _ _ _ _ => rfl) hb hg
    rw [(zaG_n hw).2.2.1] at this
    exact this
end UP

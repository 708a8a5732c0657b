/-! GLUINGS: the class finds all -/
def zfD (D : Int) (m m' : z_Mem) : Prop := ∀ o x, o ≠ 45 → o ≠ 46 → ¬ (o = 44 ∧ x = 1) → ¬ ((o = 47 ∨ o = 48) ∧ D ≤ x) → ¬ (50 + D < o ∧ o ≤ 61) → ¬ (63 + D < o ∧ o ≤ 74) → m' o x = m o x
def zcls (N : Int) (w : Int → Int) : Int := zN N.toNat (fun t => decide (0 ≤ w t))
def zNd (N : Int) (A : Int → Int) (D : Int) (w : Int → Int) (c : Int) (m : z_Mem) : Prop := zSV N A D w m ∧ (0 ≤ D ∧ D ≤ 11) ∧ zcls N w = 2 * D ∧ (0 < D → (0 ≤ m 47 (D - 1) ∧ m 47 (D - 1) < N) ∧ 0 ≤ m 48 (D - 1) ∧ m 48 (D - 1) < N) ∧ m 44 1 = c ∧ 0 ≤ c
def zDn1 (N : Int) (D : Int) (w : Int → Int) (c : Int) (L : List (Int → Int)) (m m' : z_Mem) : Prop := zfD D m m' ∧ (∀ x, x < c → m' 46 x = m 46 x) ∧ (∀ t, 0 ≤ t → t < N → m' 45 t = ztu m D w t) ∧ m' 44 1 = c + L.length ∧ ∀ n : Nat, n < L.length → m' 46 (c + n) = zwd (zlat L n) N.toNat
section FA
variable {N e i j D : Int} {f : Nat} {hs : List Int} {A w : Int → Int} {μ : z_Mem} {d : Nat} {K : Int → z_Mem → Prop} {Kn : z_Mem → Prop}
theorem zcls_pt (hi : 0 ≤ i) (hij : i < j) (hj : j < N) (oi : w i = -1) (oj : w j = -1) : zcls N (zgp w i j) = zcls N w + 2 := by
  unfold zcls
  have e1 : (fun t => decide (0 ≤ zgp w i j t)) = (fun t => decide (t = i) || (decide (t = j) || decide (0 ≤ w t))) := by
    funext t
    by_cases y : t = i
    · rw [y, zgp_1, decide_eq_true (show 0 ≤ j by omega), decide_eq_true rfl]
      rfl
    · by_cases y2 : t = j
      · rw [y2, zgp_2 (by omega), decide_eq_true hi, decide_eq_true (rfl : j = j)]
        cases decide (j = i) <;> rfl
      · rw [zgp_3 y y2, decide_eq_false y, decide_eq_false y2]
        rfl
  rw [e1, zN_on (P := fun t => decide (t = j) || decide (0 ≤ w t)) N.toNat hi (by rw [decide_eq_false (show ¬ i = j by omega), oi]; rfl), zN_on (P := fun t => decide (0 ≤ w t)) N.toNat (by omega) (by rw [oj]; rfl), if_pos (by omega), if_pos (by omega)]
  omega
theorem zcls_all (hN : 0 ≤ N) (h : ∀ t, 0 ≤ t → t < N → 0 ≤ w t) : zcls N w = N := by
  unfold zcls
  rw [zN_eq (Q := fun _ => true) N.toNat (fun t t0 t1 => decide_eq_true (h t t0 (by omega))), zNtrue]
  omega
theorem zcls_lt (hi : 0 ≤ i ∧ i < N) (o : w i = -1) : zcls N w < N := by
  have := zN_lt (P := fun t => decide (0 ≤ w t)) (Q := fun _ => true) N.toNat (fun _ _ _ _ => rfl) (j := i) (by omega) (by rw [o]; rfl) rfl
  rw [zNtrue] at this
  unfold zcls
  omega
theorem zfD_t {D D' : Int} {m m1 m2 : z_Mem} (h : D ≤ D') (h1 : zfD D m m1) (h2 : zfD D' m1 m2) : zfD D m m2 := fun o x a b c g p q => by
  rw [h2 o x a b c (by omega) (by omega) (by omega)]
  exact h1 o x a b c g p q
theorem ztu_ag {m m' : z_Mem} (h : 0 < D → m' 47 (D - 1) = m 47 (D - 1) ∧ m' 48 (D - 1) = m 48 (D - 1)) (t : Int) : ztu m' D w t = ztu m D w t := by
  unfold ztu
  by_cases z : 0 < D
  · rw [(h z).1, (h z).2]
  · rw [if_neg (fun q => z q.1), if_neg (fun q => z q.1)]
theorem e_glueAll (hn : 0 < N ∧ N ≤ 22) (hA : ∀ j, 0 ≤ j → j < N → 0 ≤ A j ∧ A j ≤ 120) : ∀ (f : Nat) (w : Int → Int) (i : Int) (hs : List Int) (D c t : Int) (m : z_Mem) (d : Nat) (Kn : z_Mem → Prop), (f : Int) = N - i + 1 → zIv N w i hs → zNd N A D w c m → (∃ e, (0 ≤ e ∧ e < N) ∧ (∀ t, 0 ≤ t → t < e → 0 ≤ w t) ∧ (w e = -1 ∨ e = N - 1) ∧ m 47 D = e ∧ m 48 D = e - 1) → c + (zGl N A f w i hs).length ≤ 64 → 0 ≤ t → t + 2 * (zBn N i hs : Int) ≤ 1000000 → (∀ (m' : z_Mem) (T : Int), 1 ≤ T → T + 1 ≤ 2 * (zBn N i hs : Int) → zDn1 N D w c (zGl N A f w i hs) m m' → z_rn m_X1_findAll 27 [some (2, 44), none, some (0, D + (-1)), some (0, t + T)] m' (d + 4) Kn) → z_rn m_X1_findAll 27 [some (2, 44), none, some (0, D), some (0, t)] m (d + 4) Kn := by
  intro f
  induction f with
  | zero =>
    intro w i hs D c t m d Kn hf v
    have := zHg_le v.2.1
    omega
  | succ f ih =>
    intro w i hs D c t m d Kn hf v hN he hc t0 tb hk
    obtain ⟨l1, l2, l3, l4, l5⟩ := zHg_le v.2.1
    have i0 := v.1
    have go : i < zen N hs → zGl N A (f + 1) w i hs = zcdt (zGl N A f) w i hs ((zen N hs - i) / 2).toNat (i + 1) → z_rn m_X1_findAll 27 [some (2, 44), none, some (0, D), some (0, t)] m (d + 4) Kn := fun hie eq => by
      rw [eq] at hk hc
      have oi : w i = -1 := l5 i (by omega) hie
      have hD2 := zcls_lt (w := w) (N := N) (i := i) ⟨i0, by omega⟩ oi
      have mm11 : ((zen N hs - i) / 2).toNat ≤ 11 := by omega
      have mm1 : 1 ≤ ((zen N hs - i) / 2).toNat := by omega
      have bu := zBu_le (τ := zBw N hs) mm1 mm11
      rw [zBn_e] at hk tb
      generalize hmm : ((zen N hs - i) / 2).toNat = mm at bu hk tb hc
      obtain ⟨e, e1, e2, e3, e4, e5⟩ := he
      have ei : e = i := by
        rcases (by omega : e < i ∨ e = i ∨ i < e) with z | z | z
        · have := v.2.2.1 e e1.1 z
          omega
        · exact z
        · have := e2 i i0 z
          omega
      have cand : ∀ (n : Nat) (j c t : Int) (m : z_Mem), i < j → (j - i) % 2 = 1 → j + 2 * n = zen N hs + 1 → n ≤ mm → zNd N A D w c m → m 47 D = i → m 48 D = j - 2 → c + (zcdt (zGl N A f) w i hs n j).length ≤ 64 → 0 ≤ t → t + 2 * (zBu mm (zBw N hs) n : Int) + 2 ≤ 1000000 → (∀ (m' : z_Mem) (T : Int), 1 ≤ T → T ≤ 1 + 2 * (zBu mm (zBw N hs) n : Int) → zDn1 N D w c (zcdt (zGl N A f) w i hs n j) m m' → z_rn m_X1_findAll 27 [some (2, 44), none, some (0, D + (-1)), some (0, t + T)] m' (d + 4) Kn) → z_rn m_X1_findAll 27 [some (2, 44), none, some (0, D), some (0, t)] m (d + 4) Kn := by
        intro n
        induction n using Nat.strongRecOn with
        | ind n ihn =>
          intro j c t m h1 h2 h3 hnm hm m47 m48 hc t0 tb hk
          obtain ⟨s, hD, hcl, hpp, hfo, c0⟩ := hm
          obtain ⟨s1, s2, s3, s4⟩ := id s
          refine V_X1_findAll_27 ?_
          rw [s1]
          refine ⟨fun q => by omega, fun q => ⟨fun q3 => by omega, fun q4 => ⟨(by first | omega | exact ⟨by omega, by omega⟩), fun q5 => by omega, fun q8 => V_X1_glueNext ⟨by omega, by omega, ?_⟩⟩⟩⟩
          rw [m47, m48, show j - 2 + 2 = j by omega]
          refine ⟨(by first | omega | exact ⟨by omega, by omega⟩), e_glueNx (f := f) hn hA v hie (by omega) n j m h1 h2 h3 s (fun nil m' fm => ?_) (fun n' j' g1 g2 g3 g4 g5 m' fm g6 g7 => ?_)⟩
          · rw [nil] at hk hc
            have e44 : m' 44 3 = N := by rw [fm 44 3 (by omega) (by omega)]; exact s1
            rw [e44]
            refine ⟨fun _ => ⟨(by first | omega | exact ⟨by omega, by omega⟩), fun _ => ⟨(by first | omega | exact ⟨by omega, by omega⟩), e_takeUp (N := N) (by omega) hn.2 (fun z => by rw [fm 47 _ (by omega) (by omega), fm 48 _ (by omega) (by omega)]; exact hpp z) (fun m2 f2 w2 => ⟨(by first | omega | exact ⟨by omega, by omega⟩), hk m2 1 (by omega) (by omega) ⟨fun o x a1 a2 a3 a4 a5 a6 => ?_, fun x _ => ?_, fun t t0 t1 => ?_, ?_, fun n h => absurd h (Nat.not_lt_zero n)⟩⟩)⟩, fun z => by omega⟩, fun z => absurd rfl z⟩
            · rw [f2 o x a1, fm o x (by omega) (by omega)]
            · rw [f2 46 x (by decide), fm 46 x (by omega) (by omega)]
            · rw [w2, ztu_ag (m := m) (fun _ => ⟨fm 47 _ (by omega) (by omega), fm 48 _ (by omega) (by omega)⟩)]
              unfold ztu
              rw [fm 45 t (by omega) (by omega), s2 t t0 t1]
            · rw [f2 44 1 (by decide), fm 44 1 (by omega) (by omega), hfo]
              show c = c + 0
              omega
          · obtain ⟨p1, p2, p3, p4, p5⟩ := zIv_put v g2 (by omega) g3
            rw [g5] at hk hc
            rw [List.length_append] at hc
            generalize hL1 : zGl N A f (zgp w i j') (i + 1) (j' :: hs) = L1 at hk hc
            have mono : zBu mm (zBw N hs) (n' + 1) ≤ zBu mm (zBw N hs) n := by
              have : ∀ k : Nat, n' + 1 ≤ k → zBu mm (zBw N hs) (n' + 1) ≤ zBu mm (zBw N hs) k := by
                intro k
                induction k with
                | zero => intro h; omega
                | succ k ihk =>
                  intro h
                  rcases (by omega : n' = k ∨ n' + 1 ≤ k) with z | z
                  · rw [z]
                    exact Nat.le_refl _
                  · have := ihk z
                    show _ ≤ zcb (mm - 1 - k) (zcb k (zBw N hs)) + zBu mm (zBw N hs) k
                    omega
              exact this n (by omega)
            have eBu : zBu mm (zBw N hs) (n' + 1) = zcb (mm - 1 - n') (zcb n' (zBw N hs)) + zBu mm (zBw N hs) n' := rfl
            have eBn : zBn N (i + 1) (j' :: hs) = zcb (mm - 1 - n') (zcb n' (zBw N hs)) := by
              rw [zBn_e]
              show zcb ((j' - (i + 1)) / 2).toNat (zBn N (j' + 1) hs) = _
              rw [zBn_e, show ((j' - (i + 1)) / 2).toNat = mm - 1 - n' by omega, show ((zen N hs - (j' + 1)) / 2).toNat = n' by omega]
            rw [eBu] at mono
            obtain ⟨u1, u2, u3, u4⟩ := id g7
            refine ⟨fun z => absurd z (by decide), fun _ => ⟨(by first | omega | exact ⟨by omega, by omega⟩), e_open (N := N) (w := zgp w i j') (by omega) u1 hn u2 (fun t t0 t1 => (p1.2.2.2.1 t t0 t1).1) (fun e' x1 x2 x3 => ⟨(by first | omega | exact ⟨by omega, by omega⟩), ?_⟩)⟩⟩
            generalize hm8 : z_st (z_st m' 47 (D + 1) e') 48 (D + 1) (e' - 1) = m8
            have f8 : ∀ o x, ¬ ((o = 47 ∨ o = 48) ∧ x = D + 1) → m8 o x = m' o x := fun o x a => by rw [← hm8, z_st_nx (by omega), z_st_nx (by omega)]
            have a47 : m8 47 D = i := by rw [f8 47 D (by omega), fm 47 D (by omega) (by omega) (by omega) (by omega)]; exact m47
            have a48 : m8 48 D = j' := by rw [f8 48 D (by omega)]; exact g6
            have S8 : zSV N A (D + 1) (zgp w i j') m8 := ⟨by rw [f8 44 3 (by omega)]; exact u1, fun t t0 t1 => by rw [f8 45 t (by omega)]; exact u2 t t0 t1, zPt_rd u3 (fun t _ _ => f8 _ t (by omega)) (fun t _ _ => f8 _ t (by omega)), u4⟩
            have N8 : zNd N A (D + 1) (zgp w i j') c m8 := by
              refine ⟨S8, by omega, by rw [zcls_pt p4 g2 p5 p2 p3]; omega, fun _ => ?_, ?_, c0⟩
              · rw [show D + 1 - 1 = D by omega, a47, a48]
                omega
              · rw [f8 44 1 (by omega), fm 44 1 (by omega) (by omega) (by omega) (by omega)]
                exact hfo
            refine ih (zgp w i j') (i + 1) (j' :: hs) (D + 1) c (t + 1) m8 d Kn (by omega) p1 N8 ⟨e', x1, x2, x3, ?_, ?_⟩ (by rw [hL1]; omega) (by omega) (by rw [eBn]; omega) (fun m9 T1 T1a T1b dn => ?_)
            · rw [← hm8, z_st_ne (by decide), z_st_eq]
            · rw [← hm8, z_st_eq]
            · rw [hL1] at dn
              rw [eBn] at T1b
              obtain ⟨d1, d2, d3, d4, d5⟩ := dn
              rw [show D + 1 + (-1) = D by omega, show t + 1 + T1 = t + (1 + T1) by omega]
              have w9 : ∀ t, 0 ≤ t → t < N → m9 45 t = w t := fun t t0 t1 => by
                rw [d3 t t0 t1]
                unfold ztu
                rw [show D + 1 - 1 = D by omega, a47, a48]
                by_cases y : t = i
                · rw [if_pos ⟨by omega, Or.inl y⟩, y]
                  exact p2.symm
                · by_cases y2 : t = j'
                  · rw [if_pos ⟨by omega, Or.inr y2⟩, y2]
                    exact p3.symm
                  · rw [if_neg (by omega), zgp_3 y y2]
              have k9 : ∀ o x, o ≠ 51 + D → o ≠ 64 + D → o ≠ 45 → o ≠ 46 → ¬ (o = 44 ∧ x = 1) → ¬ ((o = 47 ∨ o = 48) ∧ D ≤ x) → ¬ (50 + D < o ∧ o ≤ 61) → ¬ (63 + D < o ∧ o ≤ 74) → m9 o x = m o x := fun o x b1 b2 b3 b4 b5 b6 b7 b8 => by
                rw [d1 o x b3 b4 b5 (by omega) (by omega) (by omega), f8 o x (by omega), fm o x b1 b2 b3 (by omega)]
              have N9 : zNd N A D w (c + L1.length) m9 := by
                refine ⟨⟨by rw [k9 44 3 (by omega) (by omega) (by decide) (by decide) (by decide) (by omega) (by omega) (by omega)]; exact s1, w9, zPt_rd s3 (fun t _ _ => k9 _ t (by omega) (by omega) (by omega) (by omega) (by omega) (by omega) (by omega) (by omega)) (fun t _ _ => k9 _ t (by omega) (by omega) (by omega) (by omega) (by omega) (by omega) (by omega) (by omega)), s4⟩, hD, hcl, fun z => ?_, d4, by omega⟩
                rw [k9 47 _ (by omega) (by omega) (by decide) (by decide) (by omega) (by omega) (by omega) (by omega), k9 48 _ (by omega) (by omega) (by decide) (by decide) (by omega) (by omega) (by omega) (by omega)]
                exact hpp z
              refine ihn n' (by omega) (j' + 2) (c + L1.length) (t + (1 + T1)) m9 (by omega) (by omega) (by omega) (by omega) N9 ?_ ?_ (by omega) (by omega) (by omega) (fun m10 T2 T2a T2b dn2 => ?_)
              · rw [d1 47 D (by decide) (by decide) (by omega) (by omega) (by omega) (by omega)]
                exact a47
              · rw [d1 48 D (by decide) (by decide) (by omega) (by omega) (by omega) (by omega), a48]
                omega
              · obtain ⟨q1, q2, q3, q4, q5⟩ := dn2
                rw [show t + (1 + T1) + T2 = t + (1 + T1 + T2) by omega]
                refine hk m10 (1 + T1 + T2) (by omega) (by omega) ⟨fun o x b1 b2 b3 b4 b5 b6 => ?_, fun x xc => ?_, fun t t0 t1 => ?_, ?_, fun n hn' => ?_⟩
                · rw [q1 o x b1 b2 b3 b4 b5 b6]
                  exact k9 o x (by omega) (by omega) b1 b2 b3 b4 b5 b6
                · rw [q2 x (by omega), d2 x xc, f8 46 x (by omega), fm 46 x (by omega) (by omega) (by decide) (by omega)]
                · rw [q3 t t0 t1]
                  refine ztu_ag (fun z => ⟨?_, ?_⟩) t
                  · exact k9 47 _ (by omega) (by omega) (by decide) (by decide) (by omega) (by omega) (by omega) (by omega)
                  · exact k9 48 _ (by omega) (by omega) (by decide) (by decide) (by omega) (by omega) (by omega) (by omega)
                · rw [q4, List.length_append]
                  omega
                · by_cases z : n < L1.length
                  · rw [zlat_l _ _ _ z, ← d5 n z]
                    exact q2 _ (by omega)
                  · rw [List.length_append] at hn'
                    have e9 : n = L1.length + (n - L1.length) := by omega
                    rw [e9, zlat_r, ← q5 (n - L1.length) (by omega)]
                    exact congrArg _ (by omega)
      exact cand mm (i + 1) c t m (by omega) (by omega) (by omega) (Nat.le_refl _) hN (by rw [e4]; exact ei) (by rw [e5]; omega) hc t0 (by omega) (fun m' T T1 T2 dn => hk m' T T1 (by omega) dn)
    cases hs with
    | nil =>
      have eq : zGl N A (f + 1) w i [] = (if i = N then (if zpd (zVa N A w) = true then [w] else []) else zcdt (zGl N A f) w i [] ((N - i) / 2).toNat (i + 1)) := rfl
      by_cases q : i = N
      · obtain ⟨⟨s1, s2, s3, s4⟩, hD, hcl, hpp, hfo, c0⟩ := hN
        have va : zVa N A w := fun k k0 k1 => s4 k k0 k1 (v.2.2.1 k k0 (by omega))
        rw [if_pos q, if_pos (zpd_t va)] at eq
        rw [eq] at hk hc
        have hcl' := zcls_all (w := w) (N := N) (by omega) (fun t t0 t1 => v.2.2.1 t t0 (by omega))
        have hc1 : c + 1 ≤ 64 := hc
        have bn : 1 ≤ zBn N i [] := by
          rw [zBn_e, q]
          show 1 ≤ zcb ((N - N) / 2).toNat 1
          rw [show ((N - N) / 2).toNat = 0 by omega, zcb_0]
          exact Nat.le_refl _
        refine V_X1_findAll_27 ?_
        rw [s1]
        refine ⟨fun z => by omega, fun z => ⟨fun z2 => by omega, fun z2 => ⟨(by first | omega | exact ⟨by omega, by omega⟩), fun z3 => ⟨(by first | omega | exact ⟨by omega, by omega⟩), fun z4 => by omega, fun _ => ?_⟩, fun z3 => by omega⟩⟩⟩
        refine e_store (d := d + 2) s1 hn s2 hfo (by omega) ⟨(by first | omega | exact ⟨by omega, by omega⟩), e_takeUp (N := N) (by omega) hn.2 (fun z => by rw [z_st_ne (by decide), z_st_ne (by decide), z_st_ne (by decide), z_st_ne (by decide)]; exact hpp z) (fun m2 f2 w2 => ⟨(by first | omega | exact ⟨by omega, by omega⟩), hk m2 1 (by omega) (by omega) ⟨fun o x a1 a2 a3 a4 a5 a6 => ?_, fun x xc => ?_, fun t t0 t1 => ?_, ?_, fun n hn' => ?_⟩⟩)⟩
        · rw [f2 o x a1, z_st_nx a3, z_st_ne a2]
        · rw [f2 46 x (by decide), z_st_ne (by decide), z_st_ni (by omega)]
        · rw [w2, ztu_ag (m := m) (fun _ => ⟨by rw [z_st_ne (by decide), z_st_ne (by decide)], by rw [z_st_ne (by decide), z_st_ne (by decide)]⟩)]
          unfold ztu
          rw [z_st_ne (by decide), z_st_ne (by decide), s2 t t0 t1]
        · rw [f2 44 1 (by decide), z_st_eq]
          rfl
        · have : n < 1 := hn'
          obtain rfl : n = 0 := by omega
          rw [f2 46 _ (by decide), z_st_ne (by decide), show c + ((0 : Nat) : Int) = c by omega, z_st_eq]
          rfl
      · rw [if_neg q] at eq
        have l1' : i ≤ N := l1
        exact go (by show i < N; omega) eq
    | cons h hs =>
      have eq : zGl N A (f + 1) w i (h :: hs) = (if i = h then zGl N A f w (i + 1) hs else zcdt (zGl N A f) w i (h :: hs) ((h - i) / 2).toNat (i + 1)) := rfl
      obtain ⟨u1, u2, u3, u4, u5⟩ := v.2.1
      by_cases q : i = h
      · rw [if_pos q] at eq
        rw [eq] at hk hc
        have v2 : zIv N w (i + 1) hs := by
          subst q
          exact zIv_skip v
        have bn : zBn N i (h :: hs) = zBn N (i + 1) hs := by
          rw [zBn_e, q]
          show zcb ((h - h) / 2).toNat (zBn N (h + 1) hs) = _
          rw [show ((h - h) / 2).toNat = 0 by omega, zcb_0]
        rw [bn] at hk tb
        exact ih w (i + 1) hs D c t m d Kn (by omega) v2 hN he hc t0 tb hk
      · rw [if_neg q] at eq
        exact go (by show i < h; omega) eq
end FA

/-! GLUINGS: the reference's search -/
def zfG (μ m : z_Mem) : Prop := ∀ o i, o ≠ 142 → o ≠ 143 → o ≠ 144 → ¬ (o = 113 ∧ i = 45) → m o i = μ o i
def zLd (N : Int) (A u : Int → Int) (m : z_Mem) : Prop := (∀ t, 0 ≤ t → t < N → m 142 t = u t) ∧ ∃ S, zPf N (zU N u) (m 143) S ∧ ∀ r, 0 ≤ r → r < N → m 144 r = zsm A S N.toNat r
section GL
variable {N a b g : Int} {A : Int → Int} {μ μ0 : z_Mem} {d : Nat} {K : Int → z_Mem → Prop} {Kn : z_Mem → Prop}
theorem e12_areFree (ha : 0 ≤ a) (hb : b ≤ 22) (h1 : (∀ t, a ≤ t → t < b → μ 142 t = -1) → K 1 μ) (h0 : ¬ (∀ t, a ≤ t → t < b → μ 142 t = -1) → K 0 μ) : z_ci m_X12_areFree [(2, 113), (0, a), (0, b)] μ d K := by
  have key : ∀ k, a ≤ k → k ≤ max a b → (∀ t, a ≤ t → t < k → μ 142 t = -1) → z_ri m_X12_areFree 2 [some (2, 113), none, some (0, b), some (0, k)] μ d K := by
    refine z_up (fun k k0 k1 ih hm => V_X12_areFree_2 ⟨fun q => h1 (fun t t0 t1 => hm t t0 (by omega)), fun q => ⟨(by first | omega | exact ⟨by omega, by omega⟩), fun z => ⟨(by first | omega | exact ⟨by omega, by omega⟩), ih (by omega) (fun t t0 t1 => ?_)⟩, fun z => h0 (fun x => z (x k k0 q))⟩⟩)
    by_cases e : t = k
    · rw [e]
      exact z
    · exact hm t t0 (by omega)
  exact V_X12_areFree (key a (by omega) (by omega) (fun t t0 t1 => by omega))
theorem e12_glue (hn : 0 < N ∧ N ≤ 22) (e41 : μ0 113 41 = N) (e46 : μ0 113 46 = g) (hA : ∀ t, 0 ≤ t → t < N → μ0 141 t = A t ∧ 0 ≤ A t ∧ A t ≤ 120) : ∀ (f : Nat) (w : Int → Int) (i : Int) (hs : List Int) (c : Int) (m : z_Mem) (d : Nat) (K : Int → z_Mem → Prop), (f : Int) = N - i + 1 → zIv N w i hs → zfG μ0 m → (∀ t, 0 ≤ t → t < N → m 142 t = w t) → m 113 45 = c → 0 ≤ c → c + (zGl N A f w i hs).length ≤ 1000000 → (∀ pre u post, zGl N A f w i hs = pre ++ u :: post → c + pre.length = g → ∀ m', zfG μ0 m' → zLd N A u m' → m' 113 45 = g + 1 → K 1 m') → (¬ (c ≤ g ∧ g < c + (zGl N A f w i hs).length) → ∀ m', zfG μ0 m' → (∀ t, 0 ≤ t → t < N → m' 142 t = w t) → m' 113 45 = c + (zGl N A f w i hs).length → K 0 m') → z_ri m_X12_glues 2 [some (2, 113), none, some (0, i), none] m (d + f + 3) K := by
  have cand : ∀ (f : Nat) (ih : ∀ (w : Int → Int) (i : Int) (hs : List Int) (c : Int) (m : z_Mem) (d : Nat) (K : Int → z_Mem → Prop), (f : Int) = N - i + 1 → zIv N w i hs → zfG μ0 m → (∀ t, 0 ≤ t → t < N → m 142 t = w t) → m 113 45 = c → 0 ≤ c → c + (zGl N A f w i hs).length ≤ 1000000 → (∀ pre u post, zGl N A f w i hs = pre ++ u :: post → c + pre.length = g → ∀ m', zfG μ0 m' → zLd N A u m' → m' 113 45 = g + 1 → K 1 m') → (¬ (c ≤ g ∧ g < c + (zGl N A f w i hs).length) → ∀ m', zfG μ0 m' → (∀ t, 0 ≤ t → t < N → m' 142 t = w t) → m' 113 45 = c + (zGl N A f w i hs).length → K 0 m') → z_ri m_X12_glues 2 [some (2, 113), none, some (0, i), none] m (d + f + 3) K) (w : Int → Int) (i : Int) (hs : List Int) (v : zIv N w i hs) (hie : i < zen N hs) (hf : (f : Int) = N - i) (d : Nat) (K : Int → z_Mem → Prop), ∀ (n : Nat) (j c : Int) (m : z_Mem), i < j → (j - i) % 2 = 1 → j + 2 * n = zen N hs + 1 → zfG μ0 m → (∀ t, 0 ≤ t → t < N → m 142 t = w t) → m 113 45 = c → 0 ≤ c → c + (zcdt (zGl N A f) w i hs n j).length ≤ 1000000 → (∀ pre u post, zcdt (zGl N A f) w i hs n j = pre ++ u :: post → c + pre.length = g → ∀ m', zfG μ0 m' → zLd N A u m' → m' 113 45 = g + 1 → K 1 m') → (¬ (c ≤ g ∧ g < c + (zcdt (zGl N A f) w i hs n j).length) → ∀ m', zfG μ0 m' → (∀ t, 0 ≤ t → t < N → m' 142 t = w t) → m' 113 45 = c + (zcdt (zGl N A f) w i hs n j).length → K 0 m') → z_ri m_X12_glues 76 [some (2, 113), none, some (0, i), some (0, j)] m (d + f + 4) K := by
    intro f ih w i hs v hie hf d K n
    obtain ⟨l1, l2, l3, l4, l5⟩ := zHg_le v.2.1
    have i0 := v.1
    induction n with
    | zero =>
      intro j c m h1 h2 h3 hm hw hc c0 cb k1 k0
      have c41 : m 113 41 = N := by rw [hm 113 41 (by decide) (by decide) (by decide) (by decide)]; exact e41
      have fin : K 0 m := k0 (by show ¬ (c ≤ g ∧ g < c + 0); omega) m hm hw (by show _ = c + 0; omega)
      refine V_X12_glues_76 ?_
      rw [c41]
      refine ⟨fun _ => fin, fun q => ⟨(by first | omega | exact ⟨by omega, by omega⟩), fun _ => fin, fun q4 => ⟨(by first | omega | exact ⟨by omega, by omega⟩), ?_⟩⟩⟩
      refine e12_areFree (by omega) (by omega) (fun x => ?_) (fun _ => zy0 fin)
      have x1 : m 142 (j - 1) = -1 := x (j - 1) (by omega) (by omega)
      rw [hw _ (by omega) (by omega)] at x1
      cases hs with
      | nil =>
        have : j + 2 * ((0 : Nat) : Int) = N + 1 := h3
        omega
      | cons e hs =>
        have h3 : j + 2 * ((0 : Nat) : Int) = e + 1 := h3
        have := v.2.1.2.2.2.1
        rw [show j - 1 = e by omega] at x1
        omega
    | succ n ihn =>
      intro j c m h1 h2 h3 hm hw hc c0 cb k1 k0
      have c41 : m 113 41 = N := by rw [hm 113 41 (by decide) (by decide) (by decide) (by decide)]; exact e41
      obtain ⟨p1, p2, p3, p4, p5⟩ := zIv_put v h1 (by omega) h2
      have eL : zcdt (zGl N A f) w i hs (n + 1) j = zGl N A f (zgp w i j) (i + 1) (j :: hs) ++ zcdt (zGl N A f) w i hs n (j + 2) := rfl
      rw [eL] at k1 k0 cb
      rw [List.length_append] at k0 cb
      generalize hL1 : zGl N A f (zgp w i j) (i + 1) (j :: hs) = L1 at k1 k0 cb
      have mj : m 142 j = -1 := by rw [hw j (by omega) p5]; exact p3
      refine V_X12_glues_76 ?_
      rw [c41]
      refine ⟨fun q => by omega, fun q => ⟨(by first | omega | exact ⟨by omega, by omega⟩), fun z => absurd mj z, fun q4 => ⟨(by first | omega | exact ⟨by omega, by omega⟩), ?_⟩⟩⟩
      refine e12_areFree (by omega) (by omega) (fun _ => zy1 ⟨(by first | omega | exact ⟨by omega, by omega⟩), (by first | omega | exact ⟨by omega, by omega⟩), (by first | omega | exact ⟨by omega, by omega⟩), ?_⟩) (fun x => absurd (fun t t0 t1 => by rw [hw t (by omega) (by omega)]; exact l5 t (by omega) (by omega)) x)
      refine V_X12_glues ?_
      have G := ih (zgp w i j) (i + 1) (j :: hs) c (z_st (z_st m 142 i j) 142 j i) d (fun x12 m10 => (x12 = 0 → (0 ≤ i ∧ i < 22) ∧ (0 ≤ j ∧ j < 22) ∧ (-2147483648 ≤ j + 2 ∧ j + 2 ≤ 2147483647) ∧ z_ri m_X12_glues 76 [some (2, 113), none, some (0, i), some (0, j + 2)] (z_st (z_st m10 142 i (-1)) 142 j (-1)) (d + f + 4) K) ∧ (¬ x12 = 0 → K 1 m10)) (by omega) p1 ?_ ?_ ?_ c0 ?_ ?_ ?_
      · exact G
      · exact fun o x a b e1 e2 => by rw [z_st_ne a, z_st_ne a]; exact hm o x a b e1 e2
      · intro t t0 t1
        by_cases y : t = j
        · rw [y, z_st_eq, zgp_2 (by omega)]
        · rw [z_st_ni y]
          by_cases y2 : t = i
          · rw [y2, z_st_eq, zgp_1]
          · rw [z_st_ni y2, zgp_3 y2 y]
            exact hw t t0 t1
      · rw [z_st_ne (by decide), z_st_ne (by decide)]
        exact hc
      · rw [hL1]
        omega
      · intro pre u post e1 e2 m' f1 g1 c1
        rw [hL1] at e1
        exact ⟨fun x => absurd x (by decide), fun _ => k1 pre u (post ++ zcdt (zGl N A f) w i hs n (j + 2)) (by rw [e1, List.append_assoc]; rfl) e2 m' f1 g1 c1⟩
      · intro nin m' f1 w1 c1
        rw [hL1] at nin c1
        refine ⟨fun _ => ⟨(by first | omega | exact ⟨by omega, by omega⟩), (by first | omega | exact ⟨by omega, by omega⟩), ⟨by omega, by omega⟩, ihn (j + 2) (c + L1.length) _ (by omega) (by omega) (by omega) ?_ ?_ ?_ (by omega) (by omega) ?_ ?_⟩, fun x => absurd rfl x⟩
        · exact fun o x a b e1 e2 => by rw [z_st_ne a, z_st_ne a]; exact f1 o x a b e1 e2
        · intro t t0 t1
          by_cases y : t = j
          · rw [y, z_st_eq]
            exact p3.symm
          · rw [z_st_ni y]
            by_cases y2 : t = i
            · rw [y2, z_st_eq]
              exact p2.symm
            · rw [z_st_ni y2, w1 t t0 t1, zgp_3 y2 y]
        · rw [z_st_ne (by decide), z_st_ne (by decide)]
          exact c1
        · intro pre u post e1 e2 m2 f2 g2 c2
          exact k1 (L1 ++ pre) u post (by rw [e1, List.append_assoc]) (by rw [List.length_append]; omega) m2 f2 g2 c2
        · intro nin2 m2 f2 w2 c2
          exact k0 (by omega) m2 f2 w2 (by omega)
  intro f
  induction f with
  | zero =>
    intro w i hs c m d K hf v
    have := zHg_le v.2.1
    omega
  | succ f ih =>
    intro w i hs c m d K hf v hm hw hc c0 cb k1 k0
    obtain ⟨l1, l2, l3, l4, l5⟩ := zHg_le v.2.1
    have i0 := v.1
    have c41 : m 113 41 = N := by rw [hm 113 41 (by decide) (by decide) (by decide) (by decide)]; exact e41
    have c46 : m 113 46 = g := by rw [hm 113 46 (by decide) (by decide) (by decide) (by decide)]; exact e46
    have go : i < zen N hs → zGl N A (f + 1) w i hs = zcdt (zGl N A f) w i hs ((zen N hs - i) / 2).toNat (i + 1) → z_ri m_X12_glues 2 [some (2, 113), none, some (0, i), none] m (d + (f + 1) + 3) K := fun hie eq => by
      rw [eq] at k1 k0 cb
      have mi : m 142 i = -1 := by rw [hw i (by omega) (by omega)]; exact l5 i (by omega) hie
      have C := cand f ih w i hs v hie (by omega) d K ((zen N hs - i) / 2).toNat (i + 1) c m (by omega) (by omega) (by omega) hm hw hc c0 cb k1 k0
      refine V_X12_glues_2 ?_
      rw [c41]
      exact ⟨fun q => by omega, fun q => ⟨(by first | omega | exact ⟨by omega, by omega⟩), fun _ => ⟨fun _ => ⟨(by first | omega | exact ⟨by omega, by omega⟩), C⟩, fun q7 => by omega⟩, fun q8 => absurd mi q8⟩⟩
    cases hs with
    | nil =>
      have eq : zGl N A (f + 1) w i [] = (if i = N then (if zpd (zVa N A w) = true then [w] else []) else zcdt (zGl N A f) w i [] ((N - i) / 2).toNat (i + 1)) := rfl
      by_cases q : i = N
      · rw [if_pos q] at eq
        rw [eq] at k1 k0 cb
        refine V_X12_glues_2 ?_
        rw [c41]
        refine ⟨fun _ => ⟨fun z => absurd q z, fun _ => ?_⟩, fun z => by omega⟩
        refine e12_laysPoints (d := d + f + 1) (N := N) (w := w) (A := A) c41 hn (fun t t0 t1 => ⟨hw t t0 t1, v.2.2.1 t t0 (by omega), (v.2.2.2.1 t t0 t1).2⟩) (fun t t0 t1 => by rw [hm 141 t (by decide) (by decide) (by decide) (by omega)]; exact hA t t0 t1) (fun m5 S f5 P5 s5 => ?_)
        have F5 : zfG μ0 m5 := fun o x a b e1 e2 => by rw [f5 o x b e1]; exact hm o x a b e1 e2
        have w5 : ∀ t, 0 ≤ t → t < N → m5 142 t = w t := fun t t0 t1 => by rw [f5 142 t (by decide) (by decide)]; exact hw t t0 t1
        have c5 : m5 113 45 = c := by rw [f5 113 45 (by decide) (by decide)]; exact hc
        have g5 : m5 113 46 = g := by rw [f5 113 46 (by decide) (by decide)]; exact c46
        by_cases va : zVa N A w
        · rw [if_pos (zpd_t va)] at k1 k0 cb
          rw [zpd_t va]
          have cb : c + 1 ≤ 1000000 := cb
          refine ⟨fun _ => ?_, fun z => absurd z (by decide)⟩
          generalize hm6 : z_st m5 113 45 (m5 113 45 + 1) = m6
          have c6 : m6 113 45 = c + 1 := by rw [← hm6, z_st_eq, c5]
          have g6 : m6 113 46 = g := by rw [← hm6, z_st_ni (by decide)]; exact g5
          have F6 : zfG μ0 m6 := fun o x a b e1 e2 => by rw [← hm6, z_st_nx e2]; exact F5 o x a b e1 e2
          rw [c6, g6, c5]
          refine ⟨(by first | omega | exact ⟨by omega, by omega⟩), (by first | omega | exact ⟨by omega, by omega⟩), fun ne => ?_, fun e => ?_⟩
          · refine k0 (by show ¬ (c ≤ g ∧ g < c + 1); omega) m6 F6 (fun t t0 t1 => by rw [← hm6, z_st_ne (by decide)]; exact w5 t t0 t1) (by show m6 113 45 = c + 1; omega)
          · refine k1 [] w [] rfl (by show c + 0 = g; omega) m6 F6 ⟨fun t t0 t1 => by rw [← hm6, z_st_ne (by decide)]; exact w5 t t0 t1, S, ?_, fun r r0 r1 => by rw [← hm6, z_st_ne (by decide)]; exact s5 r r0 r1⟩ (by omega)
            rw [← hm6, show z_st m5 113 45 (m5 113 45 + 1) 143 = m5 143 from funext fun x => z_st_ne (by decide)]
            exact P5
        · rw [if_neg (by rw [zpd_f va]; decide)] at k1 k0 cb
          rw [zpd_f va]
          exact ⟨fun z => absurd rfl z, fun _ => k0 (by show ¬ (c ≤ g ∧ g < c + 0); omega) m5 F5 w5 (by show m5 113 45 = c + 0; omega)⟩
      · rw [if_neg q] at eq
        have l1' : i ≤ N := l1
        exact go (by show i < N; omega) eq
    | cons h hs =>
      have eq : zGl N A (f + 1) w i (h :: hs) = (if i = h then zGl N A f w (i + 1) hs else zcdt (zGl N A f) w i (h :: hs) ((h - i) / 2).toNat (i + 1)) := rfl
      obtain ⟨u1, u2, u3, u4, u5⟩ := v.2.1
      by_cases q : i = h
      · rw [if_pos q] at eq
        rw [eq] at k1 k0 cb
        have v2 : zIv N w (i + 1) hs := by
          subst q
          exact zIv_skip v
        have mi : ¬ m 142 i = -1 := by rw [hw i (by omega) (by omega), q]; omega
        have R := ih w (i + 1) hs c m (d + 1) K (by omega) v2 hm hw hc c0 cb k1 k0
        refine V_X12_glues_2 ?_
        rw [c41]
        refine ⟨fun z => by omega, fun z => ⟨(by first | omega | exact ⟨by omega, by omega⟩), fun z2 => absurd z2 mi, fun _ => ⟨(by first | omega | exact ⟨by omega, by omega⟩), ?_⟩⟩⟩
        rw [show d + (f + 1) + 3 = d + 1 + f + 3 by omega]
        exact R
      · rw [if_neg q] at eq
        exact go (by show i < h; omega) eq
end GL

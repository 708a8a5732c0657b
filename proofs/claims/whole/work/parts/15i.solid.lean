/-! SOLID, both sides -/
abbrev psN (n : Int) (s : Int → Int) : zP := (n, s, fun _ => false, 0, fun _ => 1)
section SO2
variable {a n c v L n' f k : Int} {s s' t T : Int → Int} {p q : zP} {Q : Int → zP} {μ μ0 : z_Mem} {d : Nat} {K : Int → z_Mem → Prop} {Kn : z_Mem → Prop}
theorem zq_ax_lo : ∀ (j : Nat) (c : Int) (s : Int → Int) (p l f : Int) (s' : Int → Int) (p' l' : Int), zq_ax T L j n c s p l f s' p' l' → 0 ≤ c → f = -1 → ∀ i, i < 3 * n → s' i = s i
  | 0, _, _, _, _, _, _, _, _, h, _, _, i, _ => by rw [h.2.1]
  | j + 1, c, s, p, l, f, s', p', l', h, hc, hf, i, hi => by
    have h' : (zr (zb_di T) L (zr (zb_sp T) L p) = zr (zb_sp T) L p ∧ f = 8 * zr (zb_sp T) L p + 1)
      ∨ (zr (zb_sp T) L p < zr (zb_di T) L (zr (zb_sp T) L p) ∧ 6 < zv T (zr (zb_di T) L (zr (zb_sp T) L p)) (zr (zb_sp T) L p) 0 ∧ f = 8 * zr (zb_sp T) L p + 2)
      ∨ (zr (zb_sp T) L p < zr (zb_di T) L (zr (zb_sp T) L p) ∧ 0 ≤ zv T (zr (zb_di T) L (zr (zb_sp T) L p)) (zr (zb_sp T) L p) 0 ∧ zv T (zr (zb_di T) L (zr (zb_sp T) L p)) (zr (zb_sp T) L p) 0 ≤ 6 ∧ zq_ax T L j n (c + 1) (zs_up s (3 * n + c) (zv T (zr (zb_di T) L (zr (zb_sp T) L p)) (zr (zb_sp T) L p) 0)) (zr (zb_di T) L (zr (zb_sp T) L p)) (zr (zb_sp T) L p) f s' p' l') := h
    rcases h' with ⟨_, x⟩ | ⟨_, _, x⟩ | ⟨_, _, _, x⟩
    · omega
    · omega
    · rw [zq_ax_lo j (c + 1) _ _ _ _ _ _ _ x (by omega) hf i hi]
      unfold zs_up
      rw [if_neg (by omega)]
theorem zq_cu_st {p p' : Int} (h : zq_cu T L n s p (-1) s' p') (hs : zSt s n) : zSt s' (n + 1) := by
  rcases h with ⟨_, x⟩ | ⟨_, _, x⟩ | ⟨_, _, f1, l, x, y⟩
  · omega
  · omega
  · rcases y with ⟨y1, y2⟩ | ⟨_, _, y2⟩ | ⟨y1, y2, _⟩
    · omega
    · omega
    · have lo := zq_ax_lo 3 0 _ _ _ _ _ _ _ x (by decide) y1
      intro i i0 i1
      by_cases w : i = n
      · rw [w]
        exact y2
      · exact (zc_st_ag (fun j j0 j1 => lo j (by omega)) i0).mpr (hs i i0 (by omega))
theorem zq_re_st : ∀ (j : Nat) (n : Int) (s : Int → Int) (p : Int), zq_re T L j n s p (-1) n' s' → zSt s n → zSt s' n'
  | 0, _, _, _, h, _ => absurd h (fun x => x)
  | j + 1, n, s, p, h, hs => by
    obtain ⟨f1, s1, p1, h1, h2⟩ := h
    rcases h2 with ⟨x, y⟩ | ⟨x, _, _, _, y, z⟩ | ⟨_, _, _, y⟩ | ⟨_, _, _, y⟩ | ⟨x, _, _, y⟩
    · omega
    · subst x
      rw [y, z]
      exact zq_cu_st h1 hs
    · omega
    · omega
    · subst x
      exact zq_re_st j _ _ _ y (zq_cu_st h1 hs)
theorem zSt_0 : zSt s 0 := fun i i0 i1 => by omega
theorem zV_N (hn : 0 ≤ n ∧ n ≤ 7) (h6 : z_c6 s (3 * n)) (hs : zSt s n) : zV (psN n s) := by
  have F0 : 0 ≤ zFs s n := (zN_r _).1
  refine ⟨hn, h6, hs, zFo_0 (fun _ => rfl), fun _ _ => rfl, ?_, fun e e0 e1 => by show (0 : Int) ≤ 1 ∧ (1 : Int) ≤ 9; omega⟩
  show (zFs s n = 0 ∧ (0 : Int) = 0) ∨ ((0 : Int) ≤ 0 ∧ 0 < zFs s n)
  omega
theorem zk4 : z_kd 4 = 14 ∧ z_ln 4 = 21 := by constructor <;> decide +kernel
theorem e_solid (hL : 0 ≤ μ 1 1 ∧ μ 1 1 ≤ 200) (hh : zHC μ k Q) (h1 : ∀ f n' s', zq_re (μ 2) (μ 1 1) 8 0 (fun _ => 0) 0 f n' s' → ¬ f = -1 → (f = -1 ∨ 0 ≤ f ∧ f ≤ 2000) → ∀ m, (∀ x i, x ≠ 3 → x ≠ 4 → ¬ (x = 1 ∧ i = 1) → m x i = μ x i) → m 1 1 = 0 → K (-2 - f) m) (h2 : ∀ n' s', zq_re (μ 2) (μ 1 1) 8 0 (fun _ => 0) 0 (-1) n' s' → ∀ m s, (∀ x i, ¬ (3 ≤ x ∧ x ≤ 101) → ¬ (x = 1 ∧ i = 1) → m x i = μ x i) → m 1 1 = 0 → z_ag s s' (3 * n') → (∀ i, ¬ (0 ≤ i ∧ i < 21) → s i = μ 7 i) → zV (psN n' s) → m 29 0 = 0 → m 39 0 = 0 → m 44 0 = 0 → zCn' m (psN n' s) → zHC m 0 Q → K (zFs s n') m) : z_ci m_X11_solid [(2, 1)] μ (d + 8) K := by
  refine V_X11_solid (e_read hL (fun f n' s' m' hq fm ok hf => ⟨fun z => ?_, fun z => ⟨(by first | omega | exact ⟨by omega, by omega⟩), ?_⟩⟩))
  · subst z
    obtain ⟨o1, o2, o3, ag, o5⟩ := ok rfl
    have st : zSt s' n' := zq_re_st 8 0 _ 0 hq zSt_0
    have e31 : z_st m' 1 1 0 3 1 = n' := by rw [z_st_ne (by decide)]; exact o1
    rw [e31]
    have e4 : z_st m' 1 1 0 4 = m' 4 := funext fun i => z_st_ne (by decide)
    refine e_make' (n0 := 21) zk4 (by decide) ⟨by decide, by decide⟩ ⟨by omega, o3⟩ (fun i i0 i1 => by rw [e4, ag i i0 i1]; exact o5 i i0 i1) (by rw [e4]; exact zSt_ag ag st) (fun m s f2 hs c => ?_)
    have ags : z_ag s s' (3 * n') := fun i i0 i1 => by
      rw [hs i, if_pos (by omega), e4]
      exact ag i i0 i1
    have s7 : ∀ i, ¬ (0 ≤ i ∧ i < 21) → s i = μ 7 i := fun i w => by
      rw [hs i, if_neg w, z_st_ne (by decide)]
      exact fm 7 i (by decide) (by decide)
    have hv : zV (psN n' s) := zV_N ⟨by omega, o3⟩ (fun i i0 i1 => by rw [ags i i0 i1]; exact o5 i i0 i1) (zSt_ag ags st)
    refine e_begin (fun m3 f3 b1 b2 b3 => e_forget ?_)
    refine e_settle (p := psN n' s) hv (zCK_fr c (fun x i a b => by rw [z_st_ne (by omega)]; exact f3 x i (by omega) (by omega))) ?_ (fun m4 f4 c1 c2 c3 c4 => ?_)
    · refine ⟨?_, by rw [z_st_ne (by decide)]; exact b2, fun e e0 e1 => by rw [z_st_ne (by decide)]; exact b3 e e0 e1⟩
      rw [z_st_ne (by decide), b1]
      exact ⟨by decide, fun e _ => zbt_0⟩
    · rw [show m4 6 2 = zFs s n' from c4.1.1.2.2.2.2.1]
      refine h2 n' s' hq m4 s (fun x i w1 w2 => ?_) ?_ ags s7 hv c1 c2 c3 c4 ?_
      · rw [f4 x i (by omega) (by omega) (by omega) (by omega), z_st_ne (by omega), f3 x i (by omega) (by omega), f2 x i (by omega), z_st_nx w2]
        exact fm x i (by omega) (by omega)
      · rw [f4 1 1 (by omega) (by omega) (by omega) (by omega), z_st_ne (by decide), f3 1 1 (by omega) (by omega), f2 1 1 (by omega), z_st_eq]
      · have e : ∀ i, m4 80 i = z_st m3 80 0 0 80 i := fun i => f4 80 i (by omega) (by omega) (by omega) (by omega)
        have e1 : m4 80 1 = μ 80 1 := by rw [e, z_st_ni (by decide), f3 80 1 (by omega) (by omega), f2 80 1 (by omega), z_st_ne (by decide)]; exact fm 80 1 (by omega) (by omega)
        exact ⟨by rw [e, z_st_eq], by decide, by rw [e1]; exact hh.2.2.1, fun i i0 i1 => by omega⟩
  · exact h1 f n' s' hq z hf _ (fun x i a b c => by rw [z_st_nx c]; exact fm x i a b) z_st_eq
theorem zk115 : z_kd 115 = 14 ∧ z_ln 115 = 143 := by constructor <;> decide +kernel
theorem e12_solid (hB : zB μ T L) (hTb : ∀ i, 0 ≤ i → i < L → 0 ≤ T i ∧ T i ≤ 255) (hq : zq_re T L 8 0 (fun _ => 0) 0 f n' s') (hf : f = -1 ∨ 0 ≤ f ∧ f ≤ 2000) (h1 : ¬ f = -1 → ∀ m, (∀ x i, x ≠ 115 → ¬ (x = 113 ∧ (i = 8 ∨ i = 9 ∨ i = 10 ∨ i = 11)) → m x i = μ x i) → m 113 8 = 0 → K (-2 - f) m) (h2 : f = -1 → z_ag s s' (3 * n') ∧ zV (psN n' s)) (h3 : f = -1 → ∀ m, (∀ x i, x ≠ 114 → x ≠ 115 → (x < 121 ∨ 129 < x) → ¬ (x = 113 ∧ (i = 6 ∨ i = 8 ∨ i = 9 ∨ i = 10 ∨ i = 11 ∨ (21 ≤ i ∧ i ≤ 23))) → m x i = μ x i) → m 113 8 = 0 → zMn' m (psN n' s) → zHM m 0 Q → K (zFs s n') m) : z_ci m_X12_solid [(2, 113)] μ (d + 8) K := by
  refine V_X12_solid (e_hears ?_)
  generalize hm0 : z_hd (z_st (z_st μ 113 9 0) 113 10 (-1)) 143 = m0
  have g0 : ∀ x i, x ≠ 115 → ¬ (x = 113 ∧ (i = 9 ∨ i = 10)) → m0 x i = μ x i := fun x i a b => by
    rw [← hm0, z_hd_ne a, z_st_nx (by omega), z_st_nx (by omega)]
  have H0 : zH μ m0 0 (-1) 0 (3 * 0) (fun _ => 0) := by
    refine ⟨fun o i a b => g0 o i b (by omega), fun i a b c => g0 113 i (by decide) (by omega), ?_, ?_, ?_, fun i a b => by omega, fun i a b => by omega, fun i a b => ?_⟩
    · rw [← hm0, z_hd_ne (by decide), z_st_ni (by decide), z_st_eq]
    · rw [← hm0, z_hd_ne (by decide), z_st_eq]
    · rw [← hm0, z_hd_in (by decide), if_pos (by decide)]
    · rw [← hm0, z_hd_in (by omega)]
  refine e12_reads (μ0 := μ) (d := d + 4) hB hTb f n' s' (fun z m' h n1 n7 => ?_) (fun z m' h => ?_) 8 0 m0 (fun _ => 0) 0 (by decide) (by decide) hq H0 (by decide) hB.2.2.1
  · obtain ⟨a1, a2, a3, a4, a5, a6, a7, a8⟩ := h
    obtain ⟨ag, hv⟩ := h2 z
    refine V_X12_solid_126 (V_X12_isRight ?_)
    have e10 : z_st m' 113 8 0 113 10 = -1 := by rw [z_st_ni (by decide)]; exact a4
    rw [e10]
    refine ⟨fun x => absurd rfl x, fun _ => zy1 ?_⟩
    refine e_moves zk115 zk114 (by decide) (by omega) (by omega) (by decide) ?_
    generalize hm2 : z_st (z_cpy (z_st m' 113 8 0) 115 0 114 0 143) 113 6 0 = m2
    have g2 : ∀ x i, x ≠ 114 → ¬ (x = 113 ∧ (i = 6 ∨ i = 8)) → m2 x i = m' x i := fun x i b1 b2 => by
      rw [← hm2, z_st_nx (by omega), z_cpy_ne b1, z_st_nx (by omega)]
    have h114 : ∀ i, 0 ≤ i → i < 143 → m2 114 i = m' 115 i := fun i i0 i1 => by
      rw [← hm2, z_st_ne (by decide), z_cpy_in (by omega), show 0 + (i - 0) = i by omega, z_st_ne (by decide)]
    have R : zRwM m2 114 0 (psN n' s) := by
      refine ⟨by rw [h114 0 (by omega) (by omega)]; exact a5, fun i i0 i1 => ?_, ?_, fun e e0 e1 => ?_, fun e e0 e1 => ?_⟩
      · have i1' : i < 3 * n' := i1
        rw [h114 _ (by omega) (by omega), Int.zero_add, show pS (psN n' s) i = s' i from ag i i0 i1']
        exact a6 i i0 i1'
      · rw [h114 _ (by omega) (by omega), a8 _ (by omega) (by omega), if_pos (by omega)]
      · rw [h114 _ (by omega) (by omega), a8 _ (by omega) (by omega), if_pos (by omega)]
        rfl
      · rw [h114 _ (by omega) (by omega), a8 _ (by omega) (by omega), if_neg (by omega)]
    refine e12_laysSkin (zRwM_Ns R hv) hv.2.2.1 (fun m3 f3 c3 => ?_)
    have R3 : zRwM m3 114 0 (psN n' s) := zRwM_fr R hv.1 (fun i _ _ => f3 114 i (by omega) (by omega))
    rw [show m3 113 21 = zFs s n' from (zMK_G c3).1]
    refine h3 z m3 (fun x i b1 b2 b3 b4 => ?_) ?_ ⟨c3, R3⟩ ⟨?_, by decide, fun i i0 i1 => by omega⟩
    · rw [f3 x i (by omega) (by omega), g2 x i b1 (by omega)]
      by_cases w : x = 113
      · subst w
        exact a2 i (by omega) (by omega) (by omega)
      · exact a1 x i w b2
    · rw [f3 113 8 (by decide) (by decide), ← hm2, z_st_ni (by decide), z_cpy_ne (by decide), z_st_eq]
    · rw [f3 113 6 (by decide) (by decide), ← hm2, z_st_eq]
  · obtain ⟨a1, a2, a3⟩ := h
    refine V_X12_solid_126 (V_X12_isRight ?_)
    have e10 : z_st m' 113 8 0 113 10 = f := by rw [z_st_ni (by decide)]; exact a3
    rw [e10]
    refine ⟨fun _ => zy0 ?_, fun x => absurd x z⟩
    refine ⟨(by first | omega | exact ⟨by omega, by omega⟩), ?_⟩
    refine h1 z _ (fun x i b1 b2 => ?_) z_st_eq
    rw [z_st_nx (by omega)]
    by_cases w : x = 113
    · subst w
      exact a2 i (by omega) (by omega) (by omega)
    · exact a1 x i w b1
end SO2

/-! GLUINGS: the class's top -/
def zKg (m : z_Mem) (p : zP) : Prop := ¬ m 44 0 = 0 → zWo p ∧ zRN p ≤ 22 ∧ m 44 3 = zRN p ∧ m 44 1 = (zgL p).length ∧ ∀ n : Nat, n < (zgL p).length → m 46 n = zwd (zlat (zgL p) n) (zRN p).toNat
def zBd (m : z_Mem) (p : zP) : Prop := ¬ m 39 0 = 0 → zWo p → zBor m p
/-- what the gluing calls of the class leave -/
def zfC (μ m : z_Mem) : Prop := ∀ x i, ¬ (x = 39 ∧ (i = 0 ∨ i = 1)) → (x < 40 ∨ 43 < x) → ¬ (x = 44 ∧ (i = 0 ∨ i = 1 ∨ i = 3)) → (x < 45 ∨ 74 < x) → m x i = μ x i
section TP
variable {N a b c k : Int} {U : Int → Int → Prop} {A S G u : Int → Int} {p : zP} {μ : z_Mem} {d : Nat} {K : Int → z_Mem → Prop} {Kn : z_Mem → Prop}
theorem zU_0 : ∀ a b, zEq (fun _ _ => False) a b ↔ zEq (zU N (fun _ => -1)) a b := fun a b => ⟨zEq_m (fun x y q => absurd q (fun z => z)), zEq_m (fun x y q => absurd (show (0 : Int) ≤ -1 from q.2.1) (by decide))⟩
theorem zPt_0 (hN : 0 < N) (hS : ∀ t, 0 ≤ t → t < N → S t = t) (hG : ∀ t, 0 ≤ t → t < N → G t = A t) : zPt N A (zU N (fun _ => -1)) S G := by
  refine zPt_cg (zPt_rd (S := fun k => k) (G := A) ⟨zLb_0, fun k k0 k1 => ⟨⟨k0, k1⟩, rfl⟩, fun r r0 r1 _ => ?_⟩ hS hG) zU_0
  rw [zwt_lb zLb_0 ⟨r0, r1⟩]
  unfold zsm
  rw [zS_one N.toNat (j := r) (by omega) (fun j _ _ ne => if_neg ne), if_pos rfl]
theorem e_beginG (h39 : μ 39 1 = N) (hn : 0 < N ∧ N ≤ 22) (hA : ∀ t, 0 ≤ t → t < N → μ 41 t = A t) (hk : ∀ m, (∀ o x, ¬ (o = 44 ∧ x = 3) → o ≠ 45 → o ≠ 50 → o ≠ 63 → m o x = μ o x) → zSV N A 0 (fun _ => -1) m → Kn m) : z_cn m_X1_begin [(2, 44), (2, 39)] μ (d + 1) Kn := by
  refine V_X1_begin ?_
  rw [h39, show min N 22 = N by omega]
  have key : ∀ k, 0 ≤ k → k ≤ N → ∀ m : z_Mem, (∀ o x, ¬ (o = 44 ∧ x = 3) → o ≠ 45 → o ≠ 50 → o ≠ 63 → m o x = μ o x) → m 44 3 = N → (∀ t, 0 ≤ t → t < k → m 45 t = -1 ∧ m 50 t = t ∧ m 63 t = A t) → z_rn m_X1_begin 15 [some (2, 44), some (2, 39), some (0, k)] m (d + 1) Kn := by
    refine z_up (fun k k0 k1 ih m hf h3 hm => V_X1_begin_15 ?_)
    rw [h3]
    refine ⟨fun q => ?_, fun q => ⟨(by first | omega | exact ⟨by omega, by omega⟩), (by first | omega | exact ⟨by omega, by omega⟩), (by first | omega | exact ⟨by omega, by omega⟩), (by first | omega | exact ⟨by omega, by omega⟩), (by first | omega | exact ⟨by omega, by omega⟩), ?_⟩⟩
    · obtain rfl : k = N := by omega
      exact hk m hf ⟨h3, fun t t0 t1 => (hm t t0 t1).1, zPt_0 hn.1 (fun t t0 t1 => (hm t t0 t1).2.1) (fun t t0 t1 => (hm t t0 t1).2.2), fun x x0 x1 z => absurd (show (0 : Int) ≤ -1 from z) (by decide)⟩
    · rw [z_st_ne (show (41 : Int) ≠ 50 by decide), z_st_ne (show (41 : Int) ≠ 45 by decide), hf 41 k (by omega) (by decide) (by decide) (by decide), hA k k0 q]
      refine ih q _ (fun o x a b c e => by rw [z_st_ne e, z_st_ne c, z_st_ne b]; exact hf o x a b c e) (by rw [z_st_ne (by decide), z_st_ne (by decide), z_st_ne (by decide)]; exact h3) (fun t t0 t1 => ?_)
      by_cases y : t = k
      · rw [y, z_st_ne (by decide), z_st_ne (by decide), z_st_eq, z_st_ne (by decide), z_st_eq, z_st_eq]
        exact ⟨rfl, rfl, rfl⟩
      · rw [z_st_ne (by decide), z_st_ne (by decide), z_st_ni y, z_st_ne (by decide), z_st_ni y, z_st_ne (by decide), z_st_ni y, z_st_ne (by decide), z_st_ne (by decide)]
        exact hm t t0 (by omega)
  exact key 0 (by omega) (by omega) _ (fun o x a b c e => z_st_nx a) z_st_eq (fun t t0 t1 => by omega)
theorem zBn_top (hn : 0 < N ∧ N ≤ 22) : 1 ≤ zBn N 0 [] ∧ zBn N 0 [] ≤ 208012 := by
  show 1 ≤ zcb ((N - 0) / 2).toNat 1 ∧ zcb ((N - 0) / 2).toNat 1 ≤ 208012
  have : ((N - 0) / 2).toNat ≤ 11 := by omega
  generalize ((N - 0) / 2).toNat = m at this
  rcases (by omega : m = 0 ∨ m = 1 ∨ m = 2 ∨ m = 3 ∨ m = 4 ∨ m = 5 ∨ m = 6 ∨ m = 7 ∨ m = 8 ∨ m = 9 ∨ m = 10 ∨ m = 11) with rfl | rfl | rfl | rfl | rfl | rfl | rfl | rfl | rfl | rfl | rfl | rfl <;> decide
theorem e_findAll (hv : zV p) (hw : zWo p) (hN : zRN p ≤ 22) (h64 : z64 p) (hb : zBor μ p) (hg : zKg μ p) (hk : ∀ m, (∀ o x, ¬ (o = 44 ∧ (x = 0 ∨ x = 1 ∨ x = 3)) → (o < 45 ∨ 74 < o) → m o x = μ o x) → ¬ m 44 0 = 0 → zKg m p → Kn m) : z_cn m_X1_findAll [(2, 44), (2, 39)] μ (d + 4) Kn := by
  have F0 : 0 ≤ pF p ∧ pF p ≤ 30 := (zV_sk hv).1
  have Fp := hw.1
  have hN' : 2 * pF p + 2 ≤ 22 := hN
  have hn : 0 < zRN p ∧ zRN p ≤ 22 := ⟨by show 0 < 2 * pF p + 2; omega, hN⟩
  refine V_X1_findAll ⟨fun q => ?_, fun q => hk μ (fun _ _ _ _ => rfl) q hg⟩
  refine e_beginG (N := zRN p) (A := zrA p) (d := d + 2) hb.1 hn (fun t t0 t1 => (hb.2 t t0 t1).2.1) (fun m1 f1 s1 => ?_)
  obtain ⟨x1, x2, x3, x4⟩ := id s1
  refine e_open (N := zRN p) (w := fun _ => -1) (by decide) (by rw [z_st_ni (by decide)]; exact x1) hn (fun t t0 t1 => by rw [z_st_ne (by decide)]; exact x2 t t0 t1) (fun t _ _ => by show (-1 : Int) ≤ -1; omega) (fun e e1 e2 e3 => ?_)
  generalize hm2 : z_st (z_st (z_st m1 44 1 0) 47 0 e) 48 0 (e - 1) = m2
  have f2 : ∀ o x, ¬ (o = 44 ∧ x = 1) → o ≠ 47 → o ≠ 48 → m2 o x = m1 o x := fun o x a b c => by rw [← hm2, z_st_ne c, z_st_ne b, z_st_nx a]
  have N2 : zNd (zRN p) (zrA p) 0 (fun _ => -1) 0 m2 := by
    refine ⟨⟨by rw [f2 44 3 (by decide) (by decide) (by decide)]; exact x1, fun t t0 t1 => by rw [f2 45 t (by omega) (by decide) (by decide)]; exact x2 t t0 t1, zPt_rd x3 (fun t _ _ => f2 _ t (by omega) (by decide) (by decide)) (fun t _ _ => f2 _ t (by omega) (by decide) (by decide)), x4⟩, by decide, ?_, fun z => absurd z (by decide), ?_, by decide⟩
    · unfold zcls
      exact zN_nil _ (fun _ _ _ => rfl)
    · rw [← hm2, z_st_ne (by decide), z_st_ne (by decide), z_st_eq]
  have bt := zBn_top hn
  have hA : ∀ j, 0 ≤ j → j < zRN p → 0 ≤ zrA p j ∧ zrA p j ≤ 120 := fun j j0 j1 => by
    have := zrA_r hv hw (k := j) ⟨j0, j1⟩
    omega
  refine e_glueAll hn hA (zRN p + 1).toNat (fun _ => -1) 0 [] 0 0 0 m2 d Kn ?_ (zIv_0 hn.1 (by show (2 * pF p + 2) % 2 = 0; omega)) N2 ⟨e, e1, e2, e3, ?_, ?_⟩ (by have := h64 hw hN; show 0 + ((zgL p).length : Int) ≤ 64; omega) (by decide) (by omega) (fun m3 T T1 T2 dn => ?_)
  · show (((2 * pF p + 2 + 1).toNat : Nat) : Int) = 2 * pF p + 2 - 0 + 1
    omega
  · rw [← hm2, z_st_ne (by decide), z_st_eq]
  · rw [← hm2, z_st_eq]
  · obtain ⟨d1, d2, d3, d4, d5⟩ := dn
    have d4 : m3 44 1 = 0 + ((zgL p).length : Int) := d4
    have d5 : ∀ n : Nat, n < (zgL p).length → m3 46 (0 + n) = zwd (zlat (zgL p) n) (zRN p).toNat := d5
    refine V_X1_findAll_27 ⟨fun z => by omega, fun z => ⟨fun _ => hk _ (fun o x a b => ?_) (by rw [z_st_eq]; decide) (fun _ => ⟨hw, hN, ?_, ?_, fun n hn' => ?_⟩), fun z2 => by omega⟩⟩
    · rw [z_st_nx (by omega), d1 o x (by omega) (by omega) (by omega) (by omega) (by omega) (by omega), f2 o x (by omega) (by omega) (by omega)]
      exact f1 o x (by omega) (by omega) (by omega) (by omega)
    · rw [z_st_ni (by decide), d1 44 3 (by decide) (by decide) (by decide) (by decide) (by decide) (by decide), f2 44 3 (by decide) (by decide) (by decide)]
      exact x1
    · rw [z_st_ni (by decide), d4]
      omega
    · rw [z_st_ne (by decide)]
      have := d5 n hn'
      rw [Int.zero_add] at this
      exact this
theorem e_gluB (hv : zV p) (hc : zCn' μ p) (h64 : z64 p) (hb : zBd μ p) (hg : zKg μ p) (hn : ¬ zWo p → K (-1) μ) (h3 : zWo p → 22 < zRN p → ∀ m, zfC μ m → zBor m p → zKg m p → K (-3) m) (h1 : zWo p → zRN p ≤ 22 → ∀ m, zfC μ m → zBor m p → ¬ m 44 0 = 0 → zKg m p → K ((zgL p).length : Int) m) : z_ci m_X11_gluings [(2, 1)] μ (d + 5) K := by
  have F0 : 0 ≤ pF p ∧ pF p ≤ 30 := (zV_sk hv).1
  refine V_X11_gluings (e_traceB hv hc hb (fun hw m f1 k1 b1 => zy1 ?_) (fun hw => zy0 (hn hw)))
  have g1 : zKg m p := by
    unfold zKg
    rw [f1 44 0 (by decide) (by decide), f1 44 3 (by decide) (by decide), f1 44 1 (by decide) (by decide)]
    exact fun z => ⟨(hg z).1, (hg z).2.1, (hg z).2.2.1, (hg z).2.2.2.1, fun n hn => by rw [f1 46 n (by omega) (by decide)]; exact (hg z).2.2.2.2 n hn⟩
  rw [b1.1]
  refine ⟨fun q => ?_, fun q => h3 hw q m (fun x i a b _ _ => f1 x i a b) b1 g1⟩
  refine e_findAll hv hw q h64 b1 g1 (fun m2 f2 k2 g2 => ?_)
  obtain ⟨_, _, y1, y2, y3⟩ := g2 k2
  rw [y2]
  refine h1 hw q m2 (fun x i a b c e => by rw [f2 x i c e]; exact f1 x i a b) ⟨by rw [f2 39 1 (by decide) (by decide)]; exact b1.1, fun k k0 k1 => ?_⟩ k2 g2
  rw [f2 40 k (by omega) (by decide), f2 41 k (by omega) (by decide), f2 42 k (by omega) (by decide)]
  exact b1.2 k k0 k1
theorem e_gluings (hv : zV p) (hc : zCn' μ p) (h64 : z64 p) (hb : zBd μ p) (hg : zKg μ p) (hk : ∀ m, zfC μ m → zBd m p → zKg m p → K (zaG p) m) : z_ci m_X11_gluings [(2, 1)] μ (d + 5) K := by
  refine e_gluB hv hc h64 hb hg (fun hw => ?_) (fun hw q m f b g => ?_) (fun hw q m f b k g => ?_)
  · have := hk μ (fun _ _ _ _ _ _ => rfl) hb hg
    rw [(zaG_n (a := 0) (b := 0) hw).1] at this
    exact this
  · have := hk m f (fun _ _ => b) g
    rw [(zaG_w hw).1, if_pos q] at this
    exact this
  · have := hk m f (fun _ _ => b) g
    rw [(zaG_w hw).1, if_neg (by omega)] at this
    exact this
end TP

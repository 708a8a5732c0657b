/-! BOTH SIDES, CALL BY CALL: looks -/
section OQ
theorem opq_face : op_15 z_Inv z_Inv := fun μ a1 a2 ⟨p, V, k, Q, I⟩ _ _ _ => by
  obtain ⟨v, w, v2, c, m, _⟩ := id I
  exact e_face (d := 192) v c (e12_face (d := 192) v2 (zMn_fr m v2.1 (fun _ _ _ => rfl)) (fun m2 f2 => ⟨rfl, zI_f I (fun _ _ _ => rfl) (fun x i w => f2 x i (by omega))⟩))
theorem opq_side : op_16 z_Inv z_Inv := fun μ a1 a2 a3 ⟨p, V, k, Q, I⟩ _ _ _ _ => by
  obtain ⟨v, w, v2, c, m, _⟩ := id I
  exact e_side (d := 192) v c (e12_side (d := 192) v2 m ⟨rfl, zI_f I (fun _ _ _ => rfl) (fun _ _ _ => rfl)⟩)
theorem zaE_V {p : zP} {V : Int → Int} {a b : Int} (w : pF p = 0 ∨ V = pW p) : zaE (psW p V) a b = zaE p a b := by
  rcases w with h | rfl
  · unfold zaE
    rw [if_neg (by show ¬ (0 ≤ a ∧ a < 2 * pF p); omega), if_neg (by omega)]
  · rfl
theorem opq_edge : op_17 z_Inv z_Inv := fun μ a1 a2 ⟨p, V, k, Q, I⟩ _ _ _ => by
  obtain ⟨v, w, v2, c, m, _⟩ := id I
  exact e_edge (d := 192) v c (e12_edge (d := 192) v2 m (fun m2 f2 => ⟨zaE_V w, zI_f I (fun _ _ _ => rfl) (fun x i w => f2 x i (by omega) (by omega))⟩))
theorem opq_corner : op_18 z_Inv z_Inv := fun μ a1 a2 a3 ⟨p, V, k, Q, I⟩ _ _ _ _ => by
  obtain ⟨v, w, v2, c, m, _⟩ := id I
  exact e_corner (d := 192) v c (e12_corner (d := 192) v2 m ⟨rfl, zI_f I (fun _ _ _ => rfl) (fun _ _ _ => rfl)⟩)
theorem opq_vertex : op_19 z_Inv z_Inv := fun μ a1 a2 ⟨p, V, k, Q, I⟩ _ _ _ => by
  obtain ⟨v, w, v2, c, m, _⟩ := id I
  exact e_vertex (d := 192) v c (e12_vertex (d := 192) v2 m ⟨rfl, zI_f I (fun _ _ _ => rfl) (fun _ _ _ => rfl)⟩)
theorem opq_place : op_20 z_Inv z_Inv := fun μ a1 a2 ⟨p, V, k, Q, I⟩ _ _ _ => by
  obtain ⟨v, w, v2, c, m, _⟩ := id I
  exact e_place (d := 192) v c (e12_place (d := 192) v2 m (fun m2 f2 => ⟨rfl, zI_f I (fun _ _ _ => rfl) (fun x i w => f2 x i (by omega) (by omega))⟩))
theorem opq_over : op_21 z_Inv z_Inv := fun μ a1 ⟨p, V, k, Q, I⟩ _ _ => by
  obtain ⟨v, w, v2, c, m, _⟩ := id I
  exact e_over (d := 192) v c (e12_over (d := 192) v2 m (fun m2 f2 => ⟨rfl, zI_f I (fun _ _ _ => rfl) (fun x i w => f2 x i (by omega) (by omega))⟩))
theorem opq_box : op_22 z_Inv z_Inv := fun μ a1 ⟨p, V, k, Q, I⟩ _ _ => by
  obtain ⟨v, w, v2, c, m, _⟩ := id I
  exact e_box (d := 192) v c (e12_box (d := 192) v2 m (fun m2 f2 => ⟨rfl, zI_f I (fun _ _ _ => rfl) (fun x i w => f2 x i (by omega) (by omega))⟩))
theorem opq_part : op_23 z_Inv z_Inv := fun μ a1 ⟨p, V, k, Q, I⟩ _ _ => by
  obtain ⟨v, w, v2, c, m, _⟩ := id I
  refine e_part (d := 192) v c (fun n => ?_) (fun q h => ?_) (fun q h m1 b1 f1 p1 z1 => ?_)
  · exact e12_partO (d := 192) v2 m (fun _ => ⟨rfl, zI_f I (fun _ _ _ => rfl) (fun _ _ _ => rfl)⟩) (fun q _ => absurd q n) (fun q _ => absurd q n)
  · exact e12_partO (d := 192) v2 m (fun n => absurd q n) (fun _ _ => ⟨rfl, zI_f I (fun _ _ _ => rfl) (fun _ _ _ => rfl)⟩) (fun _ h2 => by have h2 : pH p a1 = true := h2; rw [h] at h2; cases h2)
  · have m' : zMn' m1 (psW p V) := zMn_fr m v2.1 (fun x i w => f1 x i (by omega) (by omega))
    refine e12_partO (d := 192) v2 m' (fun n => absurd q n) (fun _ h2 => by have h2 : pH p a1 = false := h2; rw [h] at h2; cases h2) (fun _ _ m2 b2 f2 c2 p2 z2 => ⟨zbt_ext p2 p1 (fun e e0 => by rw [z1 e e0]; exact z2 e e0), zI_h I (fun x i w => f1 x i (by omega) (by omega)) (fun x i w => f2 x i (by omega) (by omega)) c2⟩)
theorem opq_way : op_24 z_Inv z_Inv := fun μ a1 a2 a3 ⟨p, V, k, Q, I⟩ _ _ _ _ => by
  obtain ⟨v, w, v2, c, m, _⟩ := id I
  exact e_way (d := 192) v c (fun m1 f1 => e12_way (d := 192) v2 (zMn_fr m v2.1 (fun x i w => f1 x i (by omega) (by omega))) (fun m2 f2 => ⟨rfl, zI_f I (fun x i w => f1 x i (by omega) (by omega)) (fun x i w => f2 x i (by omega) (by omega) (by omega))⟩))
theorem opq_free : op_25 z_Inv z_Inv := fun μ a1 ⟨p, V, k, Q, I⟩ _ _ => by
  obtain ⟨v, w, v2, c, m, _⟩ := id I
  exact e_free (d := 196) v c (e12_free (d := 192) v2 m (fun m2 f2 => ⟨rfl, zI_f I (fun _ _ _ => rfl) (fun x i w => f2 x i (by omega) (by omega))⟩))
theorem opq_rim : op_26 z_Inv z_Inv := fun μ a1 a2 ⟨p, V, k, Q, I⟩ _ _ _ => by
  obtain ⟨v, w, v2, c, m, _, _, _, n, b, g, _⟩ := id I
  refine e_rim (d := 192) v c b (fun m1 f1 b1 => ?_)
  refine e12_rim (d := 192) v2 (zMn_fr m v2.1 (fun x i w => f1 x i (by omega) (by omega))) (fun m2 f2 => ⟨rfl, zI_q' I (fun x i w => f1 x i (by omega) (by omega)) ?_ ?_ ?_ (fun x i w => f2 x i (by omega) (by omega) (by omega) (by omega))⟩)
  · unfold zKn
    rw [f1 29 0 (by decide) (by decide), f1 29 1 (by decide) (by decide), f1 29 2 (by decide) (by decide), f1 29 3 (by decide) (by decide)]
    exact n
  · rcases b1 with ⟨x1, x2, x3⟩ | ⟨x1, x2⟩
    · unfold zBd
      rw [x1]
      exact fun z w => zBor_fr (b z w) (x2 1) (fun x i y1 y2 => x3 x i y1 (by omega))
    · exact fun _ _ => x2
  · exact zKg_fr g (f1 44 0 (by decide) (by decide)) (f1 44 1 (by decide) (by decide)) (f1 44 3 (by decide) (by decide)) (fun i => f1 46 i (by omega) (by decide))
theorem zfC_I {μ m1 m2 : z_Mem} {p : zP} {V : Int → Int} {k : Int} {Q : Int → zP} (I : zI0 μ p V k Q) (f1 : zfC μ m1) (b1 : zBd m1 p) (g1 : zKg m1 p) (f2 : zfQ m1 m2) : z_Inv m2 := by
  obtain ⟨v, w, v2, c, m, _, _, _, n, b, g, _⟩ := id I
  refine zI_q' I (fun x i w => f1 x i (by omega) (by omega) (by omega) (by omega)) ?_ b1 g1 (fun x i w => f2 x i (by omega) (by omega) (by omega))
  unfold zKn
  rw [f1 29 0 (by decide) (by decide) (by decide) (by decide), f1 29 1 (by decide) (by decide) (by decide) (by decide), f1 29 2 (by decide) (by decide) (by decide) (by decide), f1 29 3 (by decide) (by decide) (by decide) (by decide)]
  exact n
theorem zfC_M {μ m1 : z_Mem} {p : zP} (v : zV p) (m : zMn' μ p) (f1 : zfC μ m1) : zMn' m1 p := zMn_fr m v.1 (fun x i w => f1 x i (by omega) (by omega) (by omega) (by omega))
theorem opq_gluings : op_27 z_Inv z_Inv := fun μ ⟨p, V, k, Q, I⟩ _ => by
  obtain ⟨v, w, v2, c, m, _, _, _, n, b, g, _⟩ := id I
  exact e_gluings (d := 195) v c (z64_all v) b g (fun m1 f1 b1 g1 => e12_gluings (d := 169) v2 (zfC_M v2 m f1) (z64_all v2) (fun m2 f2 => ⟨rfl, zfC_I I f1 b1 g1 f2⟩))
theorem opq_glued : op_28 z_Inv z_Inv := fun μ a1 a2 ⟨p, V, k, Q, I⟩ _ h1 h2 => by
  obtain ⟨v, w, v2, c, m, _, _, _, n, b, g, _⟩ := id I
  exact e_glued (d := 192) v c (z64_all v) b g (fun m1 f1 b1 g1 => e12_glued (d := 168) v2 (zfC_M v2 m f1) (z64_all v2) h1 h2 (fun m2 f2 => ⟨rfl, zfC_I I f1 b1 g1 f2⟩))
theorem opq_lacks : op_29 z_Inv z_Inv := fun μ a1 a2 ⟨p, V, k, Q, I⟩ _ h1 h2 => by
  obtain ⟨v, w, v2, c, m, _, _, _, n, b, g, _⟩ := id I
  exact e_lacks (d := 192) v c (z64_all v) b g (fun m1 f1 b1 g1 => e12_lacks (d := 168) v2 (zfC_M v2 m f1) (z64_all v2) h1 (fun m2 f2 => ⟨rfl, zfC_I I f1 b1 g1 f2⟩))
theorem opq_itself : op_30 z_Inv z_Inv := fun μ ⟨p, V, k, Q, I⟩ _ => by
  obtain ⟨v, w, v2, c, m, _, _, _, n, b, g, _⟩ := id I
  exact e_itself (d := 192) v c (z64_all v) b g (fun m1 f1 b1 g1 => e12_itself (d := 166) v2 (zfC_M v2 m f1) (z64_all v2) (fun m2 f2 => ⟨rfl, zfC_I I f1 b1 g1 f2⟩))
section VV
variable {p q : zP} {V V2 : Int → Int}
theorem zcl_V {a : Int} : zcl (psW p V) a = zcl p a := rfl
theorem zrw_V {a : Int} : zrw (psW p V) a = zrw p a := by
  show zsr (pF p).toNat (zcl (psW p V) a) = zsr (pF p).toNat (zcl p a)
  rw [zcl_V]
theorem zou_V : ∀ k : Nat, zou (psW p V) k = zou p k
  | 0 => rfl
  | k + 1 => by
    show (if k = 0 then zrw (psW p V) 0 else if zlt (zrw (psW p V) k) (zou (psW p V) k) (pF p).toNat 0 = true then zrw (psW p V) k else zou (psW p V) k) = (if k = 0 then zrw p 0 else if zlt (zrw p k) (zou p k) (pF p).toNat 0 = true then zrw p k else zou p k)
    rw [zrw_V (p := p) (V := V) (a := 0), zrw_V (p := p) (V := V) (a := (k : Int)), zou_V k]
theorem zoN_V : zoN (psW p V) = zoN p := rfl
theorem zWo_V : zWo (psW p V) = zWo p := rfl
theorem zNet_V : zNet (psW p V) = zNet p := by
  unfold zNet
  rw [zoN_V, zWo_V]
theorem zaU_V : zaU (psW p V) = zaU p := by
  show (if zpd (zNet (psW p V)) = true then zho (zou (psW p V) 8) (pF p).toNat else 0) = (if zpd (zNet p) = true then zho (zou p 8) (pF p).toNat else 0)
  rw [zNet_V (p := p) (V := V), zou_V (p := p) (V := V)]
theorem zsam_V : zsam (psW p V) (psW q V2) = zsam p q := by
  show (pF p = pF q ∧ ∀ j, 0 ≤ j → j < pF p → zou (psW p V) 8 j = zou (psW q V2) 8 j) = (pF p = pF q ∧ ∀ j, 0 ≤ j → j < pF p → zou p 8 j = zou q 8 j)
  rw [zou_V (p := p) (V := V), zou_V (p := q) (V := V2)]
theorem zaK_V : zaK (psW p V) (psW q V2) = zaK p q := by
  unfold zaK
  rw [zNet_V (p := p) (V := V), zNet_V (p := q) (V := V2), zsam_V]
end VV
theorem opq_outline : op_31 z_Inv z_Inv := fun μ ⟨p, V, k, Q, I⟩ _ => by
  obtain ⟨v, w, v2, c, m, _⟩ := id I
  exact e_outline (d := 196) v c (fun m1 f1 => e12_outline (d := 191) v2 (zMn_fr m v2.1 (fun x i w => f1 x i (by omega) (by omega))) (fun m2 f2 => ⟨zaU_V, zI_f I (fun x i w => f1 x i (by omega) (by omega)) (fun x i w => f2 x i (by omega) (by omega) (by omega) (by omega))⟩))
theorem zShf_a {μ : z_Mem} {p : zP} {V : Int → Int} {k : Int} {Q : Int → zP} (I : zI0 μ p V k Q) {a : Int} (ha : 0 ≤ a ∧ a < 2) : zShf μ a := by
  obtain ⟨v, w, v2, c, m, h, hm, q, n, b, g, t, s0, s1⟩ := I
  rcases (by omega : a = 0 ∨ a = 1) with rfl | rfl
  · exact s0
  · exact s1
theorem opq_alike : op_32 z_Inv z_Inv := fun μ a1 ⟨p, V, k, Q, I⟩ _ _ => by
  obtain ⟨v, w, v2, c, m, _⟩ := id I
  by_cases ha : 0 ≤ a1 ∧ a1 < 2
  · rcases zShf_a I ha with ⟨s1, s2⟩ | ⟨q, V2, s1, s2, s3, s4, s5, s6⟩
    · exact e_alike (q := p) (d := 192) v c (fun x => absurd ha x) (fun _ _ => e12_alike (q := p) (d := 188) v2 m (fun x => absurd ha x) (fun _ _ => ⟨rfl, zI_f I (fun _ _ _ => rfl) (fun _ _ _ => rfl)⟩) (fun _ x => absurd s2 x) (fun _ x => absurd s2 x)) (fun _ x => absurd s1 x) (fun _ x => absurd s1 x)
    · refine e_alike (q := q) (d := 192) v c (fun x => absurd ha x) (fun _ x => by rw [s5.1] at x; cases x) (fun _ _ => ⟨s1, s5⟩) (fun _ _ m1 f1 => ?_)
      have e : m1 119 a1 = 1 := by rw [f1 119 a1 (by omega) (by decide)]; exact s6.1
      refine e12_alike (q := psW q V2) (d := 188) v2 (zMn_fr m v2.1 (fun x i w => f1 x i (by omega) (by omega))) (fun x => absurd ha x) (fun _ x => by rw [e] at x; cases x) (fun _ _ => ⟨s3, zSM_fr s6 s3.1 (fun x i w => f1 x i (by omega) (by omega))⟩) (fun _ _ m2 f2 c2 => ⟨zaK_V, zI_h I (fun x i w => f1 x i (by omega) (by omega)) (fun x i w => f2 x i (by omega) (by omega) (by omega) (by omega) (by omega) (by omega) (by omega)) c2⟩)
  · exact e_alike (q := p) (d := 192) v c (fun _ => e12_alike (q := p) (d := 188) v2 m (fun _ => ⟨rfl, zI_f I (fun _ _ _ => rfl) (fun _ _ _ => rfl)⟩) (fun x => absurd x ha) (fun x => absurd x ha) (fun x => absurd x ha)) (fun x => absurd x ha) (fun x => absurd x ha) (fun x => absurd x ha)
theorem opq_best : op_33 z_Inv z_Inv := fun μ a1 ⟨p, V, k, Q, I⟩ _ _ => by
  obtain ⟨v, w, v2, c, m, _, _, _, n, b, g, _⟩ := id I
  refine e_best (d := 192) v c n (fun q => ?_) (fun q1 q2 m1 e h n1 f1 b1 k1 => ?_)
  · exact e12_best (d := 192) v2 m (fun _ m2 f2 => ⟨rfl, zI_f I (fun _ _ _ => rfl) (fun x i w => f2 x i (by omega) (by omega) (by omega))⟩) (fun q1 q2 => absurd ⟨q1, q2⟩ q)
  · refine e12_best (d := 192) v2 (zMn_fr m v2.1 (fun x i w => f1 x i (by omega) (by omega))) (fun q => absurd ⟨q1, q2⟩ q) (fun _ _ m2 e' h' n' f2 c2 b2 => ⟨?_, zI_q I (fun x i w => f1 x i (by omega) (by omega)) k1 ?_ ?_ (fun x i w => f2 x i (by omega) (by omega) (by omega) (by omega)) c2⟩)
    · exact zaT_un (p := p) b2 b1
    · unfold zBd
      rw [f1 39 0 (by decide) (by decide)]
      exact fun z w => zBor_fr (b z w) (f1 39 1 (by decide) (by decide)) (fun x i _ _ => f1 x i (by omega) (by omega))
    · exact zKg_fr g (f1 44 0 (by decide) (by decide)) (f1 44 1 (by decide) (by decide)) (f1 44 3 (by decide) (by decide)) (fun i => f1 46 i (by decide) (by omega))
theorem opq_count : op_34 z_Inv z_Inv := fun μ a1 ⟨p, V, k, Q, I⟩ _ _ => by
  obtain ⟨v, w, v2, c, m, h, hm, q, n, b, g, t, s0, s1⟩ := id I
  have g0 : (μ 103 0 = 0 ∨ μ 103 0 = 1) ∧ μ 119 0 = μ 103 0 := by
    rcases s0 with ⟨x1, x2⟩ | ⟨q, V2, _, _, _, _, x5, x6⟩
    · have x1 : μ 103 0 = 0 := x1
      exact ⟨Or.inl x1, by rw [x1, x2]⟩
    · have y1 : μ 103 0 = 1 := x5.1
      exact ⟨Or.inr y1, by rw [y1, x6.1]⟩
  have g1 : (μ 108 0 = 0 ∨ μ 108 0 = 1) ∧ μ 119 1 = μ 108 0 := by
    rcases s1 with ⟨x1, x2⟩ | ⟨q, V2, _, _, _, _, x5, x6⟩
    · have x1 : μ 108 0 = 0 := x1
      exact ⟨Or.inl x1, by rw [x1, x2]⟩
    · have y1 : μ 108 0 = 1 := x5.1
      exact ⟨Or.inr y1, by rw [y1, x6.1]⟩
  exact e_count (d := 192) (k := k) (L := μ 1 1) (g0 := μ 103 0) (g1 := μ 108 0) v c h.1 rfl rfl rfl g0.1 g1.1 (e12_count (d := 192) (k := k) (L := μ 1 1) (g0 := μ 103 0) (g1 := μ 108 0) v2 m hm.1 t.2.1 g0.2 g1.2 g0.1 g1.1 (fun m2 f2 => ⟨rfl, zI_f I (fun _ _ _ => rfl) (fun x i w => f2 x i (by omega) (by omega))⟩))
end OQ

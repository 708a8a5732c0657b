/-! BOTH SIDES, CALL BY CALL: ACTS -/
section OA
variable {p p' : zP} {c : Nat}
theorem opq_hinge : op_3 z_Inv z_Inv := fun μ a1 ⟨p, V, k, Q, I⟩ _ _ => by
  obtain ⟨v, w, v2, c, m, h, hm, q, _⟩ := id I
  refine e_hinge (d := 192) v c h (fun n => ?_) (fun r hz => ?_) (fun r hz hj m1 f1 => ?_) (fun r hz hj m1 f1 z1 z2 z3 c1 h1 => ?_)
  · exact e12_hinge (d := 192) v2 m hm (fun _ => ⟨rfl, zI_f I (fun _ _ _ => rfl) (fun _ _ _ => rfl)⟩) (fun r _ => absurd r n) (fun r _ _ => absurd r n) (fun r _ _ => absurd r n)
  · exact e12_hinge (d := 192) v2 m hm (fun n => absurd r n) (fun _ _ => ⟨rfl, zI_f I (fun _ _ _ => rfl) (fun _ _ _ => rfl)⟩) (fun _ h2 _ => absurd (hz.symm.trans h2) (by decide)) (fun _ h2 _ => absurd (hz.symm.trans h2) (by decide))
  · exact e12_hinge (d := 192) v2 (zMn_fr m v2.1 (fun x i w => f1 x i (by omega) (by omega))) (zHM_fr hm (f1 113 6 (by decide) (by decide)) (fun i _ => f1 117 i (by decide) (by decide))) (fun n => absurd r n) (fun _ h2 => absurd (hz.symm.trans h2) (by decide)) (fun _ _ _ m2 f2 => ⟨rfl, zI_f I (fun x i w => f1 x i (by omega) (by omega)) (fun x i w => f2 x i (by omega) (by omega) (by omega))⟩) (fun _ _ nj => absurd hj nj)
  · have e := w.resolve_left (by omega)
    subst e
    exact e12_hinge (p := p) (d := 192) v (zMn_fr m v.1 (fun x i w => f1 x i (by omega))) (zHM_fr hm (f1 113 6 (by decide)) (fun i _ => f1 117 i (by omega))) (fun n => absurd r n) (fun _ h2 => absurd (hz.symm.trans h2) (by decide)) (fun _ _ j => absurd j hj) (fun _ _ _ m2 f2 c2 h2 => ⟨rfl, zI_a I f1 z1 z2 z3 (fun x i w => f2 x i (by omega) (by omega) (by omega) (by omega) (by omega) (by omega)) (zV_on v r hj) c1 c2 h1 h2 (zQv_push h.2.1 v q rfl rfl)⟩)
theorem opq_cut : op_4 z_Inv z_Inv := fun μ a1 ⟨p, V, k, Q, I⟩ _ _ => by
  obtain ⟨v, w, v2, c, m, h, hm, q, _⟩ := id I
  refine e_cut (d := 192) v c h (fun n => ?_) (fun r hz => ?_) (fun r hz m1 f1 z1 z2 z3 c1 h1 => ?_)
  · exact e12_cut (d := 192) v2 m hm (fun _ => ⟨rfl, zI_f I (fun _ _ _ => rfl) (fun _ _ _ => rfl)⟩) (fun r _ => absurd r n) (fun r _ => absurd r n)
  · exact e12_cut (d := 192) v2 m hm (fun n => absurd r n) (fun _ _ => ⟨rfl, zI_f I (fun _ _ _ => rfl) (fun _ _ _ => rfl)⟩) (fun _ h2 => absurd (hz.symm.trans h2) (by decide))
  · have e := w.resolve_left (by omega)
    subst e
    exact e12_cut (p := p) (d := 192) v (zMn_fr m v.1 (fun x i w => f1 x i (by omega))) (zHM_fr hm (f1 113 6 (by decide)) (fun i _ => f1 117 i (by omega))) (fun n => absurd r n) (fun _ h2 => absurd (hz.symm.trans h2) (by decide)) (fun _ _ m2 f2 c2 h2 => ⟨rfl, zI_a I f1 z1 z2 z3 (fun x i w => f2 x i (by omega) (by omega) (by omega)) (zV_of v) c1 c2 h1 h2 (zQv_push h.2.1 v q rfl rfl)⟩)
theorem zV_r {a : Int} (hv : zV p) (ha : 0 ≤ a ∧ a < pF p) : zV (psr p a) := by
  obtain ⟨h1, h2, h3, h4, h5, h6, h7⟩ := hv
  exact ⟨h1, h2, h3, h4, h5, Or.inr ha, h7⟩
theorem opq_root : op_5 z_Inv z_Inv := fun μ a1 ⟨p, V, k, Q, I⟩ _ _ => by
  obtain ⟨v, w, v2, c, m, h, hm, q, _⟩ := id I
  refine e_root (d := 192) v c h (fun n => ?_) (fun r hz => ?_) (fun r hz m1 f1 z1 z2 z3 c1 h1 => ?_)
  · exact e12_root (d := 192) v2 m hm (fun _ => ⟨rfl, zI_f I (fun _ _ _ => rfl) (fun _ _ _ => rfl)⟩) (fun r _ => absurd r n) (fun r _ => absurd r n)
  · exact e12_root (d := 192) v2 m hm (fun n => absurd r n) (fun _ _ => ⟨rfl, zI_f I (fun _ _ _ => rfl) (fun _ _ _ => rfl)⟩) (fun _ h2 => absurd hz h2)
  · have e := w.resolve_left (by omega)
    subst e
    exact e12_root (p := p) (d := 192) v (zMn_fr m v.1 (fun x i w => f1 x i (by omega))) (zHM_fr hm (f1 113 6 (by decide)) (fun i _ => f1 117 i (by omega))) (fun n => absurd r n) (fun _ h2 => absurd h2 hz) (fun _ _ m2 f2 c2 h2 => ⟨rfl, zI_a I f1 z1 z2 z3 (fun x i w => f2 x i (by omega) (by omega) (by omega)) (zV_r v r) c1 c2 h1 h2 (zQv_push h.2.1 v q rfl rfl)⟩)
theorem zBor_V {m : z_Mem} {W : Int → Int} (h : zBor m p) : zBor m (psW p W) := h
theorem zgL_V {W : Int → Int} : zgL (psW p W) = zgL p := rfl
theorem zBst_V {W : Int → Int} {e h n : Int} (hb : zBst p e h n) : zBst (psW p W) e h n := hb
theorem opq_weigh : op_6 z_Inv z_Inv := fun μ a1 a2 ⟨p, V, k, Q, I⟩ _ _ _ => by
  obtain ⟨v, w, v2, c, m, h, hm, q, n, b, g, t, s0, s1⟩ := id I
  refine e_weigh (d := 192) v c h (fun n => ?_) (fun r hz => ?_) (fun r hz m1 f1 c1 h1 => ?_)
  · exact e12_weigh (d := 192) v2 m hm (fun _ => ⟨rfl, zI_f I (fun _ _ _ => rfl) (fun _ _ _ => rfl)⟩) (fun r _ => absurd r n) (fun r _ => absurd r n)
  · have e := w.resolve_left (by omega)
    subst e
    exact e12_weigh (p := p) (d := 192) v m hm (fun n => absurd r n) (fun _ _ => ⟨rfl, zI_f I (fun _ _ _ => rfl) (fun _ _ _ => rfl)⟩) (fun _ h2 => absurd hz h2)
  · have e := w.resolve_left (by omega)
    subst e
    refine e12_weigh (p := p) (d := 192) v (zMn_fr m v.1 (fun x i w => f1 x i (by omega) (by omega))) (zHM_fr hm (f1 113 6 (by decide) (by decide)) (fun i _ => f1 117 i (by omega) (by decide))) (fun n => absurd r n) (fun _ h2 => absurd h2 hz) (fun _ _ m2 f2 c2 h2 => ⟨rfl, zI_end (p' := psW p (zup (pW p) a1 a2)) (V' := zup (pW p) a1 a2) t s0 s1 (fun x i w => f1 x i (by omega) (by omega)) (fun i _ => f1 7 i (by omega) (by decide)) (fun x i w => f2 x i (by omega) (by omega) (by omega)) (zV_W v r.2) (Or.inr rfl) (zV_W v r.2) c1 c2 h1 h2 (zQv_push h.2.1 v q rfl rfl) ?_ ?_ ?_⟩)
    · unfold zKn
      rw [f1 29 0 (by decide) (by decide), f1 29 1 (by decide) (by decide), f1 29 2 (by decide) (by decide), f1 29 3 (by decide) (by decide)]
      exact fun z => ⟨(n z).1, zBst_V (n z).2⟩
    · unfold zBd
      rw [f1 39 0 (by decide) (by decide)]
      exact fun z w => zBor_V (zBor_fr (b z w) (f1 39 1 (by decide) (by decide)) (fun x i _ _ => f1 x i (by omega) (by omega)))
    · have := zKg_fr g (f1 44 0 (by decide) (by decide)) (f1 44 1 (by decide) (by decide)) (f1 44 3 (by decide) (by decide)) (fun i => f1 46 i (by decide) (by decide))
      exact fun z => ⟨(this z).1, (this z).2.1, (this z).2.2.1, by rw [zgL_V]; exact (this z).2.2.2.1, fun n hn => by rw [zgL_V] at hn ⊢; exact (this z).2.2.2.2 n hn⟩
theorem opq_span : op_7 z_Inv z_Inv := fun μ ⟨p, V, k, Q, I⟩ _ => by
  obtain ⟨v, w, v2, c, m, h, hm, q, _⟩ := id I
  refine e_span (d := 192) v c h (fun n => ?_) (fun r m1 f1 z1 z2 z3 c1 h1 => ?_)
  · exact e12_span (d := 192) v2 m hm (fun _ => ⟨rfl, zI_f I (fun _ _ _ => rfl) (fun _ _ _ => rfl)⟩) (fun r => absurd n r)
  · have e := w.resolve_left r
    subst e
    exact e12_span (p := p) (d := 192) v (zMn_fr m v.1 (fun x i w => f1 x i (by omega))) (zHM_fr hm (f1 113 6 (by decide)) (fun i _ => f1 117 i (by omega))) (fun n => absurd n r) (fun _ m2 f2 c2 h2 => ⟨rfl, zI_a I f1 z1 z2 z3 (fun x i w => f2 x i (by omega) (by omega) (by omega) (by omega) (by omega) (by omega)) (zsa_V v 10 (Nat.le_refl _)).1 c1 c2 h1 h2 (zQv_push h.2.1 v q rfl rfl)⟩)
theorem opq_tree : op_8 z_Inv z_Inv := fun μ a1 ⟨p, V, k, Q, I⟩ _ _ => by
  obtain ⟨v, w, v2, c, m, h, hm, q, _⟩ := id I
  refine e_tree (d := 192) v c h (fun n => ?_) (fun r m1 f1 z1 z2 z3 c1 h1 => ?_)
  · exact e12_tree (d := 160) v2 m hm (fun _ => ⟨rfl, zI_f I (fun _ _ _ => rfl) (fun _ _ _ => rfl)⟩) (fun r => absurd r n)
  · have e := w.resolve_left r.2
    subst e
    have hr : 0 ≤ pr p ∧ pr p < pF p := by
      rcases v.2.2.2.2.2.1 with x | x
      · exact absurd x.1 r.2
      · exact x
    exact e12_tree (p := p) (d := 160) v (zMn_fr m v.1 (fun x i w => f1 x i (by omega))) (zHM_fr hm (f1 113 6 (by decide)) (fun i _ => f1 117 i (by omega))) (fun n => absurd r n) (fun _ m2 f2 c2 h2 => ⟨rfl, zI_a I f1 z1 z2 z3 (fun x i w => f2 x i (by omega) (by omega) (by omega) (by omega)) (zV_L v (zTl_tr v hr)) c1 c2 h1 h2 (zQv_push h.2.1 v q rfl rfl)⟩)
theorem opq_trade : op_9 z_Inv z_Inv := fun μ a1 a2 ⟨p, V, k, Q, I⟩ _ _ _ => by
  obtain ⟨v, w, v2, c, m, h, hm, q, _⟩ := id I
  refine e_trade (d := 192) v c h (fun n => ?_) (fun r1 r2 hz => ?_) (fun r1 r2 y1 y2 hz m1 f1 => ?_) (fun hw ht m1 f1 z1 z2 z3 c1 h1 => ?_)
  · exact e12_trade (d := 192) v2 m hm (fun _ => ⟨rfl, zI_f I (fun _ _ _ => rfl) (fun _ _ _ => rfl)⟩) (fun r1 r2 => absurd ⟨r1, r2⟩ n) (fun r1 r2 => absurd ⟨r1, r2⟩ n) (fun _ ht => absurd ⟨ht.1, ht.2.1⟩ n)
  · exact e12_trade (d := 192) v2 m hm (fun n => absurd ⟨r1, r2⟩ n) (fun _ _ _ => ⟨rfl, zI_f I (fun _ _ _ => rfl) (fun _ _ _ => rfl)⟩) (fun _ _ y1 y2 => absurd ⟨y1, y2⟩ hz) (fun _ ht => absurd ⟨ht.2.2.1, ht.2.2.2.1⟩ hz)
  · have e := w.resolve_left (by omega)
    subst e
    exact e12_trade (p := p) (d := 192) v (zMn_fr m v.1 (fun x i w => f1 x i (by omega) (by omega))) (zHM_fr hm (f1 113 6 (by decide) (by decide)) (fun i _ => f1 117 i (by decide) (by decide))) (fun n => absurd ⟨r1, r2⟩ n) (fun _ _ x => absurd ⟨y1, y2⟩ x) (fun _ _ _ _ _ m2 f2 c2 => ⟨rfl, zI_h I (fun x i w => f1 x i (by omega) (by omega)) (fun x i w => f2 x i (by omega) (by omega) (by omega)) c2⟩) (fun hw ht => absurd ⟨hw, ht⟩ hz)
  · have e := w.resolve_left (by have := hw.1; omega)
    subst e
    exact e12_trade (p := p) (d := 192) v (zMn_fr m v.1 (fun x i w => f1 x i (by omega))) (zHM_fr hm (f1 113 6 (by decide)) (fun i _ => f1 117 i (by omega))) (fun n => absurd ⟨ht.1, ht.2.1⟩ n) (fun _ _ x => absurd ⟨ht.2.2.1, ht.2.2.2.1⟩ x) (fun _ _ _ _ x => absurd ⟨hw, ht⟩ x) (fun _ _ m2 f2 c2 h2 => ⟨rfl, zI_a I f1 z1 z2 z3 (fun x i w => f2 x i (by omega) (by omega) (by omega) (by omega) (by omega)) (zT_V v ht) c1 c2 h1 h2 (zQv_push h.2.1 v q rfl rfl)⟩)
theorem zMd_S : ∀ {c : Nat} {p : zP}, zMd c p p' → pn p' = pn p ∧ pS p' = pS p
  | 0, p, h => by
    have h : p' = p ∧ _ := h
    rw [h.1]
    exact ⟨rfl, rfl⟩
  | c + 1, p, h => by
    obtain ⟨e, h', n, _, _, _, x⟩ := h
    exact zMd_S (c := c) (p := psT p e h') x
theorem opq_mend : op_10 z_Inv z_Inv := fun μ ⟨p, V, k, Q, I⟩ _ => by
  obtain ⟨v, w, v2, c, m, h, hm, q, n, b, g, t, s0, s1⟩ := id I
  refine e_mend (d := 192) v c h n (fun nw => ?_) (fun hw m1 cn p' md v' w' f1 k1 fl c1 h1 => ?_)
  · exact e12_mend (c := 0) (p' := psW p V) (d := 192) v2 m hm (fun hw => absurd hw nw) (fun _ m2 f2 => ⟨rfl, zI_f I (fun _ _ _ => rfl) (fun x i w => f2 x i (by omega) (by omega) (by omega))⟩) (fun hw => absurd hw nw)
  · have e := w.resolve_left (by have := hw.1; omega)
    subst e
    obtain ⟨e1, e2⟩ := zMd_S md
    refine e12_mend (p := p) (c := cn) (p' := p') (d := 192) v (zMn_fr m v.1 (fun x i w => f1 x i (by omega))) (zHM_fr hm (f1 113 6 (by decide)) (fun i _ => f1 117 i (by omega))) (fun _ => md) (fun nw => absurd hw nw) (fun _ m2 f2 c2 h2 => ⟨rfl, zI_end (p' := p') (V' := pW p') t s0 s1 (fun x i w => f1 x i (by omega)) (fun i _ => f1 7 i (by omega)) (fun x i w => f2 x i (by omega) (by omega) (by omega) (by omega) (by omega)) v' (Or.inr rfl) v' c1 c2 h1 h2 (zQv_push h.2.1 v q e1 e2) k1 ?_ ?_⟩)
    · rcases fl with fl | ⟨rfl, fl⟩
      · exact fun z => absurd fl.1 z
      · unfold zBd
        rw [fl 39 0 (by decide) (by decide)]
        exact fun z w => zBor_fr (b z w) (fl 39 1 (by decide) (by decide)) (fun x i _ _ => fl x i (by omega) (by omega))
    · rcases fl with fl | ⟨rfl, fl⟩
      · exact fun z => absurd fl.2 z
      · exact zKg_fr g (fl 44 0 (by decide) (by decide)) (fl 44 1 (by decide) (by decide)) (fl 44 3 (by decide) (by decide)) (fun i => fl 46 i (by decide) (by decide))
theorem opq_seek : op_11 z_Inv z_Inv := fun μ ⟨p, V, k, Q, I⟩ _ => by
  obtain ⟨v, w, v2, c, m, h, hm, q, n, b, g, t, s0, s1⟩ := id I
  refine e_seek (d := 188) v c h (fun n0 => ?_) (fun r m1 cc U hz neg f1 => ?_) (fun r m1 cc U hz pos ti f1 z1 z2 z3 c1 h1 => ?_) (fun cc U hz => (zrun_le 3000 [] cc U hz).2.1)
  · exact e12_seek (c := 0) (U := []) (d := 120) v2 m hm (fun x => absurd n0 x) (fun _ => ⟨rfl, zI_f I (fun _ _ _ => rfl) (fun _ _ _ => rfl)⟩) (fun x => absurd n0 x) (fun x => absurd n0 x)
  · have e := w.resolve_left r
    subst e
    have N1 : zKn m1 p := by
      unfold zKn
      rw [f1 29 0 (by decide), f1 29 1 (by decide), f1 29 2 (by decide), f1 29 3 (by decide)]
      exact n
    have B1 : zBd m1 p := by
      unfold zBd
      rw [f1 39 0 (by decide)]
      exact fun z w => zBor_fr (b z w) (f1 39 1 (by decide)) (fun x i _ _ => f1 x i (by omega))
    have G1 : zKg m1 p := zKg_fr g (f1 44 0 (by decide)) (f1 44 1 (by decide)) (f1 44 3 (by decide)) (fun i => f1 46 i (by decide))
    exact e12_seek (p := p) (c := cc) (U := U) (d := 120) v (zMn_fr m v.1 (fun x i w => f1 x i (by omega))) (zHM_fr hm (f1 113 6 (by decide)) (fun i _ => f1 117 i (by omega))) (fun _ => hz) (fun x => absurd x r) (fun _ _ m2 f2 c2 => ⟨rfl, zI_q I (fun x i w => f1 x i (by omega)) N1 B1 G1 (fun x i w => f2 x i (by omega) (by omega) (by omega) (by omega)) c2⟩) (fun _ x => by omega)
  · have e := w.resolve_left r
    subst e
    exact e12_seek (p := p) (c := cc) (U := U) (d := 120) v (zMn_fr m v.1 (fun x i w => f1 x i (by omega))) (zHM_fr hm (f1 113 6 (by decide)) (fun i _ => f1 117 i (by omega))) (fun _ => hz) (fun x => absurd x r) (fun _ x => by omega) (fun _ _ m2 f2 c2 h2 => ⟨rfl, zI_a I f1 z1 z2 z3 (fun x i w => f2 x i (by omega) (by omega) (by omega) (by omega) (by omega) (by omega)) (zV_T v ti) c1 c2 h1 h2 (zQv_push h.2.1 v q rfl rfl)⟩)
theorem opq_undo : op_12 z_Inv z_Inv := fun μ ⟨p, V, k, Q, I⟩ _ => by
  obtain ⟨v, w, v2, c, m, h, hm, q, _⟩ := id I
  have q2 : zQv (psW p V) k Q := fun i i0 i1 => q i i0 i1
  refine e_undo (d := 192) c q h (fun n => ?_) (fun r m1 f1 z1 z2 z3 c1 h1 => ?_)
  · exact e12_undo (d := 192) m q2 hm (fun _ => ⟨rfl, zI_f I (fun _ _ _ => rfl) (fun _ _ _ => rfl)⟩) (fun x => by omega)
  · have qk := q (k - 1) (by omega) (by omega)
    exact e12_undo (d := 192) (zMn_fr m v2.1 (fun x i w => f1 x i (by omega))) q2 (zHM_fr hm (f1 113 6 (by decide)) (fun i _ => f1 117 i (by omega))) (fun x => by omega) (fun _ m2 f2 c2 h2 => ⟨rfl, zI_a I f1 z1 z2 z3 (fun x i w => f2 x i (by omega) (by omega)) qk.1 c1 c2 h1 h2 (fun i i0 i1 => by rw [qk.2.1, qk.2.2]; exact q i i0 (by omega))⟩)
end OA

/-! trade, best, mend on both sides -/
def zaT (e h n a : Int) : Int := if e = -1 then -2 else if a = 0 then e else if a = 1 then h else n
def zMd : Nat → zP → zP → Prop
  | 0, p, p' => p' = p ∧ ∀ e h n, zBst p e h n → e = -1 ∨ zoN p ≤ n
  | c + 1, p, p' => ∃ e h n, zBst p e h n ∧ ¬ e = -1 ∧ n < zoN p ∧ zMd c (psT p e h) p'
section TR
variable {a b e h k v r f s x y w n E N : Int} {p p' : zP} {D D' : Int → Int → Prop} {Q : Int → zP} {μ μ0 : z_Mem} {d c : Nat} {K : Int → z_Mem → Prop} {Kn : z_Mem → Prop}
theorem zaO_m : zaO p (-1) = zoN p := by
  unfold zaO
  rw [if_neg (by decide), if_pos rfl]
theorem zaT_un {e2 h2 n2 : Int} (h1 : zBst p e h n) (h3 : zBst p e2 h2 n2) : zaT e h n a = zaT e2 h2 n2 a := by
  rcases zBst_un h1 h3 with ⟨x, y, _⟩ | ⟨_, x, y, z, _⟩
  · rw [x, y]
    rfl
  · rw [x, y, z]
theorem e_trade (hv : zV p) (hc : zCn' μ p) (hh : zHC μ k Q) (h1 : ¬ ((0 ≤ a ∧ a < 2 * pF p) ∧ 0 ≤ b ∧ b < 2 * pF p) → K (-1) μ) (h2 : (0 ≤ a ∧ a < 2 * pF p) → (0 ≤ b ∧ b < 2 * pF p) → ¬ (pH p a = false ∧ pH p b = true) → K (-2) μ) (h3 : (0 ≤ a ∧ a < 2 * pF p) → (0 ≤ b ∧ b < 2 * pF p) → pH p a = false → pH p b = true → ¬ (zWo p ∧ zTd p a b) → ∀ m, (∀ o i, o ≠ 17 → o ≠ 18 → m o i = μ o i) → K (-3) m) (h4 : zWo p → zTd p a b → ∀ m, zfA μ m → m 29 0 = 0 → m 39 0 = 0 → m 44 0 = 0 → zCn' m (psT p a b) → zHC m (min (k + 1) 10) (zpush k Q p) → K (zoN (psT p a b)) m) : z_ci m_X11_trade [(2, 1), (0, a), (0, b)] μ (d + 8) K := by
  have sk := zV_sk hv
  have G : zGc μ (pF p) (pa p) (pe p) (pq p) := zCK_G hc.1
  have F0 : 0 ≤ pF p ∧ pF p ≤ 30 := sk.1
  refine V_X11_trade (e_isEdge (fun q => zy0' (h1 (fun w => q ?_))) (fun q => zy1' (e_isEdge (fun q2 => zy0 (h1 (fun w => q2 ?_))) (fun q2 => zy1 ?_))))
  · rw [G.2.1]
    exact w.1
  · rw [G.2.1]
    exact w.2
  · rw [G.2.1] at q q2
    obtain ⟨w1, w2, w3⟩ := zV_e hv q
    obtain ⟨s1, s2, s3, s4, s5, s6⟩ := sk.2.1 _ w1.1 w1.2
    refine e_isHinge zkd21 hc.2.1.1 (by omega) (fun hz => zy1 (h2 q q2 (fun w => by rw [w.1] at hz; cases hz))) (fun hz => zy0 ?_)
    refine e_isHinge zkd21 hc.2.1.1 (by omega) (fun hz2 => zy1 ⟨(by first | omega | exact ⟨by omega, by omega⟩), ⟨hc.2.1.1.1.1, by rw [zpw']; exact Int.natCast_nonneg _⟩, ?_⟩) (fun hz2 => zy0 (h2 q q2 (fun w => by rw [w.2] at hz2; cases hz2)))
    refine e_allJoined hv hc (fun hw => zy1' ?_) (fun hw => zy0' (h3 q q2 hz hz2 (fun w => hw w.1) μ (fun _ _ _ _ => rfl)))
    refine e_faceOf G w3 q (Or.inl rfl) (e_faceOf G w3 q (Or.inr rfl) ?_)
    rw [if_pos rfl, if_neg (by decide)]
    refine e_isJoined (H := zof (pH p) b) sk G (zHb_of hc.2.1.1 (by omega)) (by omega) (by omega) (fun m v hm hj => zy1' (h3 q q2 hz hz2 (fun w => w.2.2.2.2.2 hj) m hm.1)) (fun m v hm hj => zy0' ?_)
    have td : zTd p a b := ⟨q, q2, hz, hz2, hj⟩
    have f17 := hm.1
    refine e_remember (Q := Q) (p := p) (k := k) (zHC_fr hh (fun x i _ _ => f17 x i (by omega) (by omega))) (zRwC_fr hc.2.1 (fun x i _ => f17 x i (by omega) (by omega))) (fun m2 f2 h2' => ?_)
    refine V_X3_swap zkd21 (e_setCut (p := p) (zRwC_fr hc.2.1 (fun x i _ => by rw [f2 x i (by omega)]; exact f17 x i (by omega) (by omega))) (by omega) (fun r3 => e_setHinge (p := psH p (zof (pH p) b)) r3 (by omega) (fun r4 => ?_)))
    have fr : ∀ x i, x ≠ 21 → x < 80 ∨ 101 < x → x ≠ 17 → x ≠ 18 → z_st (z_st m2 21 0 (zan (m2 21 0) b)) 21 0 (zor (z_st m2 21 0 (zan (m2 21 0) b) 21 0) a) x i = μ x i := fun x i c1 c2 c3 c4 => by
      rw [z_st_ne c1, z_st_ne c1, f2 x i c2]
      exact f17 x i c3 c4
    refine e_act (μ0 := μ) (p' := psT p a b) (zT_V hv td) (zCK_fr hc.1 (fun x i _ _ => fr x i (by omega) (by omega) (by omega) (by omega))) r4 (fun x i q => fr x i (by omega) (by omega) (by omega) (by omega)) (k' := min (k + 1) 10) (Q' := zpush k Q p) (zHC_fr h2' (fun x i _ _ => by rw [z_st_ne (by omega), z_st_ne (by omega)])) (fun m4 f4 c1 c2 c3 c4 c5 => ?_)
    refine e_overlap (zT_V hv td) c4 (by decide) ?_
    rw [zaO_m]
    exact h4 hw td m4 f4 c1 c2 c3 c4 c5
theorem e_best (hv : zV p) (hc : zCn' μ p) (hn : zKn μ p) (h1 : ¬ (zWo p ∧ 0 ≤ a ∧ a ≤ 2) → K (-1) μ) (h2 : zWo p → 0 ≤ a ∧ a ≤ 2 → ∀ m e h n, (∀ o i, o ≠ 30 → ¬ (o = 29 ∧ 0 ≤ i ∧ i ≤ 3) → m o i = μ o i) → zBst p e h n → zKn m p → K (zaT e h n a) m) : z_ci m_X11_best [(2, 1), (0, a)] μ (d + 8) K := by
  refine V_X11_best ⟨fun q => h1 (by omega), fun q => ⟨fun q2 => h1 (by omega), fun q2 => ?_⟩⟩
  refine e_allJoined hv hc (fun hw => zy1 (e_lookB hv hw hc hn (fun m f0 b0 b1 => ?_))) (fun hw => zy0 (h1 (fun w => hw w.1)))
  have := h2 hw ⟨q, q2⟩ m _ _ _ f0 b1 (fun _ => ⟨hw, b1⟩)
  unfold zaT at this
  refine ⟨fun z => ?_, fun z => ?_⟩
  · rw [if_neg z] at this
    refine ⟨fun z2 => ?_, fun z2 => ?_⟩
    · rw [if_neg z2] at this
      refine ⟨fun z3 => ?_, fun z3 => ?_⟩
      · rw [if_neg z3] at this
        exact this
      · rw [if_pos z3] at this
        exact this
    · rw [if_pos z2] at this
      exact this
  · rw [if_pos z] at this
    exact this
theorem e_mend (hv : zV p) (hc : zCn' μ p) (hh : zHC μ k Q) (hn : zKn μ p) (h1 : ¬ zWo p → K (-1) μ) (h2 : zWo p → ∀ m c p', zMd c p p' → zV p' → zWo p' → zfA μ m → zKn m p' → ((m 39 0 = 0 ∧ m 44 0 = 0) ∨ (p' = p ∧ ∀ o i, 39 ≤ o → o ≤ 74 → m o i = μ o i)) → zCn' m p' → zHC m (min (k + 1) 10) (zpush k Q p) → K c m) : z_ci m_X11_mend [(2, 1)] μ (d + 8) K := by
  refine V_X11_mend (e_allJoined hv hc (fun hw => zy1 ?_) (fun hw => zy0 (h1 hw)))
  refine e_remember hh hc.2.1 (fun m0 f0 hh0 => ?_)
  have loop : ∀ (j : Nat) (v : Nat) (p1 : zP) (m : z_Mem), v + j = 435 → zoN p1 + v ≤ 435 → zV p1 → zWo p1 → (∀ c p', zMd c p1 p' → zMd (v + c) p p') → zfA μ m → zKn m p1 → ((m 39 0 = 0 ∧ m 44 0 = 0) ∨ (p1 = p ∧ ∀ o i, 39 ≤ o → o ≤ 74 → m o i = μ o i)) → zCn' m p1 → zHC m (min (k + 1) 10) (zpush k Q p) → z_ri m_X11_mend 22 [some (2, 1), some (0, v)] m (d + 8) K := by
    intro j
    induction j with
    | zero =>
      intro v p1 m hj hz v1 w1 cl fA kn cc C H
      refine V_X11_mend_22 ⟨fun q => ?_, fun q => by omega⟩
      refine h2 hw m v p1 (cl 0 p1 ⟨rfl, fun e h n b => ?_⟩) v1 w1 fA kn cc C H
      rcases b with ⟨x, _⟩ | ⟨_, x, _⟩
      · exact Or.inl x
      · have := zoN_435 (p := psT p1 e h)
        omega
    | succ j ih =>
      intro v p1 m hj hz v1 w1 cl fA kn cc C H
      refine V_X11_mend_22 ⟨fun q => by omega, fun q => ?_⟩
      refine e_lookB v1 w1 C kn (fun m3 f3 b0 b1 => ?_)
      have C3 : zCn' m3 p1 := zCn_fr C (fun x i w => f3 x i (by omega) (by omega))
      have fA3 : zfA μ m3 := fun x i w => by rw [f3 x i (by omega) (by omega)]; exact fA x i w
      have H3 : zHC m3 (min (k + 1) 10) (zpush k Q p) := zHC_fr H (fun x i _ _ => f3 x i (by omega) (by omega))
      have cc3 : (m3 39 0 = 0 ∧ m3 44 0 = 0) ∨ (p1 = p ∧ ∀ o i, 39 ≤ o → o ≤ 74 → m3 o i = μ o i) := by
        rcases cc with ⟨x, y⟩ | ⟨x, y⟩
        · exact Or.inl ⟨by rw [f3 39 0 (by decide) (by decide)]; exact x, by rw [f3 44 0 (by decide) (by decide)]; exact y⟩
        · exact Or.inr ⟨x, fun o i a b => by rw [f3 o i (by omega) (by omega)]; exact y o i a b⟩
      have stop : (m3 29 1 = -1 ∨ zoN p1 ≤ m3 29 3) → K v m3 := fun hs => by
        refine h2 hw m3 v p1 (cl 0 p1 ⟨rfl, fun e h n b => ?_⟩) v1 w1 fA3 (fun _ => ⟨w1, b1⟩) cc3 C3 H3
        rcases zBst_un b b1 with ⟨x, y, _⟩ | ⟨_, x, y, z, _⟩
        · exact Or.inl x
        · rw [x, z]
          exact hs
      refine ⟨fun z => stop (Or.inl z), fun z => e_overlap v1 C3 (by decide) ?_⟩
      rw [zaO_m]
      refine ⟨fun z2 => ?_, fun z2 => stop (Or.inr z2)⟩
      have td : zTd p1 (m3 29 1) (m3 29 2) ∧ m3 29 3 = zoN (psT p1 (m3 29 1) (m3 29 2)) := by
        rcases b1 with ⟨x, _⟩ | ⟨x, y, _⟩
        · exact absurd x z
        · exact ⟨x, y⟩
      have F0 : 0 ≤ pF p1 ∧ pF p1 ≤ 30 := (zV_sk v1).1
      have te := td.1.1
      have th := td.1.2.1
      refine V_X3_swap zkd21 (e_setCut (p := p1) C3.2.1 (by omega) (fun r3 => e_setHinge (p := psH p1 (zof (pH p1) (m3 29 2))) r3 (by omega) (fun r4 => ?_)))
      refine e_act (μ0 := μ) (p' := psT p1 (m3 29 1) (m3 29 2)) (zT_V v1 td.1) (zCK_fr C3.1 (fun x i _ _ => by rw [z_st_ne (by omega), z_st_ne (by omega)])) r4 (fun x i q => by rw [z_st_ne (by omega), z_st_ne (by omega)]; exact fA3 x i q) (k' := min (k + 1) 10) (Q' := zpush k Q p) (zHC_fr H3 (fun x i _ _ => by rw [z_st_ne (by omega), z_st_ne (by omega)])) (fun m4 f4 c1 c2 c3 c4 c5 => ⟨(by first | omega | exact ⟨by omega, by omega⟩), ?_⟩)
      have := ih (v + 1) (psT p1 (m3 29 1) (m3 29 2)) m4 (by omega) (by omega) (zT_V v1 td.1) (zT_W v1 w1 td.1) (fun c p' hm => ?_) f4 (fun w => absurd c1 w) (Or.inl ⟨c2, c3⟩) c4 c5
      · exact this
      · rw [show v + 1 + c = v + (c + 1) by omega]
        exact cl (c + 1) p' ⟨_, _, _, b1, z, z2, hm⟩
  have z0 := zoN_435 (p := p)
  refine loop 435 0 p m0 rfl (by omega) hv hw (fun c p' hm => by rw [Nat.zero_add]; exact hm) (fun x i w => f0 x i (by omega)) ?_ (Or.inr ⟨rfl, fun o i a b => f0 o i (by omega)⟩) (zCn_fr hc (fun x i w => f0 x i (by omega))) hh0
  unfold zKn
  rw [f0 29 0 (by omega), f0 29 1 (by omega), f0 29 2 (by omega), f0 29 3 (by omega)]
  exact hn
theorem e12_trades {m : z_Mem} (hv : zV p) (hc : zMn' m p) (td : zTd p e h) (hk : zMn' (z_st (z_st m 114 (23 + e) 1) 114 (23 + h) 0) (psT p e h) → Kn (z_st (z_st m 114 (23 + e) 1) 114 (23 + h) 0)) : z_cn m_X12_trades [(2, 113), (0, e), (0, h)] m d Kn := by
  have F0 : 0 ≤ pF p ∧ pF p ≤ 30 := (zV_sk hv).1
  obtain ⟨t1, t2, t3, t4, t5⟩ := td
  have ne : h ≠ e := fun w => by rw [w, t3] at t4; cases t4
  refine V_X12_trades ⟨(by first | omega | exact ⟨by omega, by omega⟩), (by first | omega | exact ⟨by omega, by omega⟩), (by first | omega | exact ⟨by omega, by omega⟩), (by first | omega | exact ⟨by omega, by omega⟩), hk ?_⟩
  have r1 := zRwM_set (H := zon (pH p) e) (x := 1) hc.2 hv.1 (by omega : 0 ≤ e ∧ e < 60) (by rw [zon_e]; rfl) (fun x hx => zon_ne hx)
  have r2 := zRwM_set (p := psH p (zon (pH p) e)) (H := zon (zof (pH p) h) e) (x := 0) r1 hv.1 (by omega : 0 ≤ h ∧ h < 60) (by rw [zon_ne ne, zof_e]; rfl) (fun x hx => by
    by_cases w : x = e
    · rw [w, zon_e]
      exact zon_e.symm
    · rw [zon_ne w, zof_ne hx]
      exact (zon_ne w).symm)
  exact zM_H (H := zon (zof (pH p) h) e) hv hc (fun o i q => by rw [z_st_ne (by omega), z_st_ne (by omega)]) r2
theorem e12_trade (hv : zV p) (hc : zMn' μ p) (hh : zHM μ k Q) (h1 : ¬ ((0 ≤ a ∧ a < 2 * pF p) ∧ 0 ≤ b ∧ b < 2 * pF p) → K (-1) μ) (h2 : (0 ≤ a ∧ a < 2 * pF p) → (0 ≤ b ∧ b < 2 * pF p) → ¬ (pH p a = false ∧ pH p b = true) → K (-2) μ) (h3 : (0 ≤ a ∧ a < 2 * pF p) → (0 ≤ b ∧ b < 2 * pF p) → pH p a = false → pH p b = true → ¬ (zWo p ∧ zTd p a b) → ∀ m, (∀ x i, x ≠ 114 → (x < 130 ∨ 132 < x) → (x < 135 ∨ 137 < x) → m x i = μ x i) → zMn' m p → K (-3) m) (h4 : zWo p → zTd p a b → ∀ m, (∀ x i, ¬ (x = 113 ∧ i = 6) → x ≠ 114 → x ≠ 117 → (x < 130 ∨ 132 < x) → (x < 135 ∨ 137 < x) → m x i = μ x i) → zMn' m (psT p a b) → zHM m (min (k + 1) 10) (zpush k Q p) → K (zoN (psT p a b)) m) : z_ci m_X12_trade [(2, 113), (0, a), (0, b)] μ (d + 8) K := by
  have sk := zV_sk hv
  have F0 : 0 ≤ pF p ∧ pF p ≤ 30 := sk.1
  have G : zGm μ (pF p) (pa p) (pe p) (pq p) := zMK_G hc.1
  have eI : z_I (μ 113 22 - 1) := ⟨by rw [G.2.1]; omega, by rw [G.2.1]; omega⟩
  refine V_X12_trade (e12_isEdge eI (fun q => zy0' (h1 (fun w => q ?_))) (fun q => zy1' (e12_isEdge eI (fun q2 => zy0 (h1 (fun w => q2 ?_))) (fun q2 => zy1 ?_))))
  · rw [G.2.1]
    exact w.1
  · rw [G.2.1]
    exact w.2
  · rw [G.2.1] at q q2
    refine e12_isHinge (zRwM_H hc.2) (by omega) (fun hz => zy1 (h2 q q2 (fun w => by rw [w.1] at hz; cases hz))) (fun hz => zy0 ?_)
    refine e12_isHinge (zRwM_H hc.2) (by omega) (fun hz2 => zy1 ?_) (fun hz2 => zy0 (h2 q q2 (fun w => by rw [w.2] at hz2; cases hz2)))
    refine e12_isWhole hv hc (fun hw m fm => zy1' ?_) (fun hw m fm => zy0' (h3 q q2 hz hz2 (fun w => hw w.1) m (fun x i _ w _ => fm x i (by omega) (by omega) (by omega)) (zMn_fr hc hv.1 (fun x i w => fm x i (by omega) (by omega) (by omega)))))
    have C : zMn' m p := zMn_fr hc hv.1 (fun x i w => fm x i (by omega) (by omega) (by omega))
    have fr : ∀ m2 : z_Mem, (∀ x i, x ≠ 114 → (x < 130 ∨ 132 < x) → (x < 135 ∨ 137 < x) → m2 x i = m x i) → ∀ x i, x ≠ 114 → (x < 130 ∨ 132 < x) → (x < 135 ∨ 137 < x) → m2 x i = μ x i := fun m2 f2 x i c1 c2 c3 => by
      rw [f2 x i c1 c2 c3]
      exact fm x i (by omega) (by omega) (by omega)
    refine e12_tradedTo hv C q q2 hz hz2 (fun nt m2 f2 C2 => ⟨fun z => absurd rfl z, fun _ => h3 q q2 hz hz2 (fun w => nt w.2) m2 (fr m2 f2) C2⟩) (fun td m2 f2 C2 => ⟨fun _ => ?_, fun z => ?_⟩)
    · have F2 := fr m2 f2
      refine e12_keepsPast (zHM_fr hh (F2 113 6 (by decide) (by decide) (by decide)) (fun i _ => F2 117 i (by decide) (by decide) (by decide))) C2.2 hv.1 (fun m3 f3 H3 => ?_)
      have C3 : zMn' m3 p := zMn_fr C2 hv.1 (fun x i w => f3 x i (by omega) (by omega))
      refine e12_trades hv C3 td (fun C4 => h4 hw td _ (fun x i c1 c2 c3 c4 c5 => ?_) C4 (zHM_fr H3 (by rw [z_st_ne (by decide), z_st_ne (by decide)]) (fun i _ => by rw [z_st_ne (by decide), z_st_ne (by decide)])))
      rw [z_st_ne c2, z_st_ne c2, f3 x i c1 c3]
      exact F2 x i c2 c4 c5
    · have := zoN_435 (p := psT p a b)
      omega
theorem e12_best (hv : zV p) (hc : zMn' μ p) (h1 : ¬ (zWo p ∧ 0 ≤ a ∧ a ≤ 2) → ∀ m, (∀ o i, o ≠ 130 → o ≠ 131 → o ≠ 132 → m o i = μ o i) → K (-1) m) (h2 : zWo p → 0 ≤ a ∧ a ≤ 2 → ∀ m e h n, (∀ x i, ¬ (x = 113 ∧ 32 ≤ i ∧ i ≤ 34) → x ≠ 114 → (x < 130 ∨ 132 < x) → (x < 135 ∨ 137 < x) → m x i = μ x i) → zMn' m p → zBst p e h n → K (zaT e h n a) m) : z_ci m_X12_best [(2, 113), (0, a)] μ (d + 8) K := by
  refine V_X12_best (e12_isWhole hv hc (fun hw m fm => zy1' ?_) (fun hw m fm => zy0' (h1 (fun w => hw w.1) m fm)))
  refine e_in (fun q => zy0 (h1 (fun w => q w.2) m fm)) (fun q => zy1 ?_)
  have C : zMn' m p := zMn_fr hc hv.1 (fun x i w => fm x i (by omega) (by omega) (by omega))
  refine e12_laysBest hv C (fun m2 e h n f2 C2 b v => ?_)
  have := h2 hw q m2 e h n (fun x i c1 c2 c3 c4 => by rw [f2 x i c1 c2 c3 c4]; exact fm x i (by omega) (by omega) (by omega)) C2 b
  unfold zaT at this
  rcases v with ⟨v1, v2, v3, v4⟩ | ⟨v1, v2, v3, v4, v5⟩
  · rw [if_pos v1] at this
    rw [v2, v3, v4]
    exact ⟨fun _ => ⟨fun _ => this, fun _ => this⟩, fun _ => this⟩
  · rw [if_neg v1] at this
    rw [v2, v3, v4]
    refine ⟨fun z => ⟨fun z2 => ?_, fun z2 => ?_⟩, fun z => ?_⟩
    · rw [if_neg z, if_neg z2] at this
      exact this
    · rw [if_neg z, if_pos z2] at this
      exact this
    · rw [if_pos z] at this
      exact this
theorem e12_mend (hv : zV p) (hc : zMn' μ p) (hh : zHM μ k Q) (hm : zWo p → zMd c p p') (h1 : ¬ zWo p → ∀ m, (∀ o i, o ≠ 130 → o ≠ 131 → o ≠ 132 → m o i = μ o i) → K (-1) m) (h2 : zWo p → ∀ m, (∀ x i, ¬ (x = 113 ∧ (i = 6 ∨ 32 ≤ i ∧ i ≤ 34)) → x ≠ 114 → x ≠ 117 → (x < 130 ∨ 132 < x) → (x < 135 ∨ 137 < x) → m x i = μ x i) → zMn' m p' → zHM m (min (k + 1) 10) (zpush k Q p) → K c m) : z_ci m_X12_mend [(2, 113)] μ (d + 8) K := by
  refine V_X12_mend (e12_isWhole hv hc (fun hw m fm => zy1 ?_) (fun hw m fm => zy0 (h1 hw m fm)))
  have C : zMn' m p := zMn_fr hc hv.1 (fun x i w => fm x i (by omega) (by omega) (by omega))
  refine e12_keepsPast (zHM_fr hh (fm 113 6 (by decide) (by decide) (by decide)) (fun i _ => fm 117 i (by decide) (by decide) (by decide))) C.2 hv.1 (fun m2 f2 H2 => ?_)
  have C2 : zMn' m2 p := zMn_fr C hv.1 (fun x i w => f2 x i (by omega) (by omega))
  refine e12_overlaps hv C2 (fun m3 f3 _ => ?_)
  have C3 : zMn' m3 p := zMn_fr C2 hv.1 (fun x i w => f3 x i (by omega) (by omega))
  have loop : ∀ (c : Nat) (v : Nat) (p1 : zP) (m : z_Mem) (e h n : Int), zV p1 → zWo p1 → zMd c p1 p' → v + c ≤ 435 → (∀ x i, ¬ (x = 113 ∧ (i = 6 ∨ 32 ≤ i ∧ i ≤ 34)) → x ≠ 114 → x ≠ 117 → (x < 130 ∨ 132 < x) → (x < 135 ∨ 137 < x) → m x i = μ x i) → zMn' m p1 → zHM m (min (k + 1) 10) (zpush k Q p) → zBst p1 e h n → ((e = -1 ∧ m 113 32 = -2 ∧ m 113 33 = -2 ∧ m 113 34 = -2) ∨ (¬ e = -1 ∧ m 113 32 = e ∧ m 113 33 = h ∧ m 113 34 = n ∧ 0 ≤ n)) → (∀ m, (∀ x i, ¬ (x = 113 ∧ (i = 6 ∨ 32 ≤ i ∧ i ≤ 34)) → x ≠ 114 → x ≠ 117 → (x < 130 ∨ 132 < x) → (x < 135 ∨ 137 < x) → m x i = μ x i) → zMn' m p' → zHM m (min (k + 1) 10) (zpush k Q p) → K ((v + c : Nat) : Int) m) → z_ri m_X12_mend 24 [some (2, 113), some (0, v), some (0, zoN p1)] m (d + 8) K := by
    intro c
    induction c with
    | zero =>
      intro v p1 m e h n v1 w1 md hvc fr C H b vv hK
      obtain ⟨md1, md2⟩ := md
      subst md1
      refine V_X12_mend_24 ⟨fun q => hK m fr C H, fun q => ⟨fun q2 => hK m fr C H, fun q2 => ?_⟩⟩
      rcases vv with ⟨x1, x2, x3, x4⟩ | ⟨x1, x2, x3, x4, x5⟩
      · exact absurd x4 q
      · rcases md2 e h n b with y | y
        · exact absurd y x1
        · omega
    | succ c ih =>
      intro v p1 m e h n v1 w1 md hvc fr C H b vv hK
      obtain ⟨e1, h1', n1, md1, md2, md3, md4⟩ := md
      rcases zBst_un md1 b with ⟨x, _⟩ | ⟨td, x, y, z, zn⟩
      · exact absurd x md2
      · subst x y z
        rcases vv with ⟨x1, x2, x3, x4⟩ | ⟨x1, x2, x3, x4, x5⟩
        · exact absurd x1 md2
        · refine V_X12_mend_24 ⟨fun q => by omega, fun q => ⟨fun q2 => by omega, fun q2 => ?_⟩⟩
          rw [x2, x3]
          refine e12_trades v1 C td (fun C5 => ⟨(by first | omega | exact ⟨by omega, by omega⟩), ?_⟩)
          have e34 : z_st (z_st m 114 (23 + e1) 1) 114 (23 + h1') 0 113 34 = zoN (psT p1 e1 h1') := by
            rw [z_st_ne (by decide), z_st_ne (by decide), x4, zn]
          rw [e34]
          have V5 := zT_V v1 td
          refine e12_laysBest V5 C5 (fun m6 e6 h6 n6 f6 C6 b6 v6 => ?_)
          have fr6 : ∀ x i, ¬ (x = 113 ∧ (i = 6 ∨ 32 ≤ i ∧ i ≤ 34)) → x ≠ 114 → x ≠ 117 → (x < 130 ∨ 132 < x) → (x < 135 ∨ 137 < x) → m6 x i = μ x i := fun x i c1 c2 c3 c4 c5 => by
            rw [f6 x i (by omega) c2 c4 c5, z_st_ne c2, z_st_ne c2]
            exact fr x i c1 c2 c3 c4 c5
          have := ih (v + 1) (psT p1 e1 h1') m6 e6 h6 n6 V5 (zT_W v1 w1 td) md4 (by omega) fr6 C6 (zHM_fr H (by rw [f6 113 6 (by decide) (by decide) (by decide) (by decide), z_st_ne (by decide), z_st_ne (by decide)]) (fun i _ => by rw [f6 117 i (by omega) (by decide) (by decide) (by decide), z_st_ne (by decide), z_st_ne (by decide)])) b6 v6 (fun m fr' C' H' => by
            have := hK m fr' C' H'
            rw [show v + 1 + c = v + (c + 1) by omega]
            exact this)
          exact this
  have z0 := zoN_435 (p := p)
  have bound : ∀ (c : Nat) (p1 : zP), zMd c p1 p' → (c : Int) ≤ zoN p1 := by
    intro c
    induction c with
    | zero => intro p1 _; exact (zoN_435 (p := p1)).1
    | succ c ih =>
      rintro p1 ⟨e, h, n, b1, b2, b3, b4⟩
      have := ih _ b4
      rcases b1 with ⟨x, _⟩ | ⟨_, x, _⟩
      · exact absurd x b2
      · omega
  have bc := bound c p (hm hw)
  refine e12_laysBest hv C3 (fun m4 e h n f4 C4 b v => ?_)
  have := loop c 0 p m4 e h n hv hw (hm hw) (by omega) (fun x i c1 c2 c3 c4 c5 => ?_) C4 (zHM_fr H2 (by rw [f4 113 6 (by decide) (by decide) (by decide) (by decide), f3 113 6 (by decide) (by decide)]) (fun i _ => by rw [f4 117 i (by omega) (by decide) (by decide) (by decide), f3 117 i (by decide) (by decide)])) b v (fun m fr' C' H' => ?_)
  · exact this
  · rw [f4 x i (by omega) c2 c4 c5, f3 x i c4 c5, f2 x i (by omega) c3]
    exact fm x i (by omega) (by omega) (by omega)
  · rw [Nat.zero_add]
    exact h2 hw m fr' C' H'
end TR

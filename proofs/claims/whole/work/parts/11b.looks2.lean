/-! looks: face, side, edge, corner -/
def zhs (p : zP) (f : Int) : Nat → Int
  | 0 => 0
  | t + 1 => zhs p f t + zi (pH p (pe p (4 * f + t)))
def zaF (p : zP) (a b : Int) : Int := if 0 ≤ a ∧ a < pF p then (if b = 0 then zcu (pS p) (pn p) a else if b = 1 then zdi (pS p) (pn p) a else if b = 2 then zhs p a 4 else if b = 3 then zi (zPl p a) else -1) else -1
def zaS (p : zP) (a b c : Int) : Int := if (0 ≤ a ∧ a < pF p) ∧ 0 ≤ b ∧ b ≤ 3 then (if c = 0 then pe p (4 * a + b) else if c = 1 then pa p (4 * a + b) / 4 else if c = 2 then pa p (4 * a + b) % 4 else -1) else -1
def zaE (p : zP) (a b : Int) : Int := if 0 ≤ a ∧ a < 2 * pF p then (if b = 0 then pq p a / 4 else if b = 1 then pa p (pq p a) / 4 else if b = 2 then pq p a % 4 else if b = 3 then pa p (pq p a) % 4 else if b = 4 then zac4 (pS p) (pn p) (pq p a) else if b = 5 then pW p a else if b = 6 then zi (pH p a) else if b = 7 then zi (zfre p a) else -1) else -1
noncomputable def zaC (p : zP) (a b c : Int) : Int := if (0 ≤ a ∧ a < pF p) ∧ 0 ≤ b ∧ b ≤ 3 then (if c = 0 then zvX (pS p) (pn p) (4 * a + b) else if c = 1 then zvR (pS p) (pn p) (zvX (pS p) (pn p) (4 * a + b)) else -1) else -1
section LL
variable {a b c k v r f : Int} {p : zP} {L : List Int} {μ μ0 : z_Mem} {d : Nat} {K : Int → z_Mem → Prop} {Kn : z_Mem → Prop}
theorem zhs_b (n : Nat) : 0 ≤ zhs p f n ∧ zhs p f n ≤ n := by
  induction n with
  | zero => exact ⟨Int.le_refl _, Int.le_refl _⟩
  | succ n ih =>
    have := zi_r (pH p (pe p (4 * f + n)))
    show 0 ≤ zhs p f n + _ ∧ zhs p f n + _ ≤ _
    omega
theorem e_face (hv : zV p) (hc : zCn' μ p) (hk : K (zaF p a b) μ) : z_ci m_X11_face [(2, 1), (0, a), (0, b)] μ (d + 8) K := by
  have sk := zV_sk hv
  have F0 : 0 ≤ pF p ∧ pF p ≤ 30 := sk.1
  have G : zGc μ (pF p) (pa p) (pe p) (pq p) := zCK_G hc.1
  unfold zaF at hk
  refine V_X11_face (e_isFace (fun q => ?_) (fun q => ?_))
  · rw [G.1] at q
    rw [if_neg q] at hk
    exact zy0 hk
  · rw [G.1] at q
    rw [if_pos q] at hk
    obtain ⟨c1, c2⟩ := hc.1.1.2.2.2.2.2.1 a q.1 q.2
    refine zy1 ⟨fun q2 => ⟨(by first | omega | exact ⟨by omega, by omega⟩), ?_⟩, fun q2 => ⟨(by first | omega | exact ⟨by omega, by omega⟩), ?_⟩, fun q2 => ?_, fun q2 => ?_, fun q2 => ?_⟩
    · rw [if_pos q2, ← c1] at hk
      exact hk
    · rw [if_neg (by omega), if_pos q2, ← c2] at hk
      exact hk
    · rw [if_neg (by omega), if_neg (by omega), if_pos q2] at hk
      have key : ∀ t : Int, 0 ≤ t → t ≤ 4 → z_ri m_X11_hingesOf 4 [some (2, 1), some (0, a), some (0, zhs p a t.toNat), some (0, t)] μ (d + 7) K := by
        refine z_up (fun t t0 t1 ih => V_X11_hingesOf_4 ⟨fun q3 => ?_, fun q3 => ?_⟩)
        · obtain rfl : t = 4 := by omega
          exact hk
        · have kr : 0 ≤ 4 * a + t ∧ 4 * a + t < 4 * pF p := by omega
          obtain ⟨s1, s2, s3, s4, s5, s6⟩ := sk.2.1 _ kr.1 kr.2
          rw [(G.2.2.1 _ kr.1 kr.2).2]
          have st : zhs p a (t + 1).toNat = zhs p a t.toNat + zi (pH p (pe p (4 * a + t))) := by
            rw [show (t + 1).toNat = t.toNat + 1 by omega]
            show _ + zi (pH p (pe p (4 * a + ((t.toNat : Nat) : Int)))) = _
            rw [show ((t.toNat : Nat) : Int) = t by omega]
          have zb := zhs_b (p := p) (f := a) t.toNat
          have := ih q3
          rw [st] at this
          refine ⟨(by first | omega | exact ⟨by omega, by omega⟩), (by first | omega | exact ⟨by omega, by omega⟩), (by first | omega | exact ⟨by omega, by omega⟩), e_isHinge zkd21 hc.2.1.1 (by omega) (fun hz => zy1' ⟨(by first | omega | exact ⟨by omega, by omega⟩), (by first | omega | exact ⟨by omega, by omega⟩), ?_⟩) (fun hz => zy0' ⟨(by first | omega | exact ⟨by omega, by omega⟩), ?_⟩)⟩
          · rw [hz] at this
            exact this
          · rw [hz] at this
            have e : zhs p a t.toNat + zi false = zhs p a t.toNat := by show _ + (0 : Int) = _; omega
            rw [e] at this
            exact this
      exact V_X11_hingesOf (key 0 (by omega) (by omega))
    · rw [if_neg (by omega), if_neg (by omega), if_neg (by omega), if_pos q2] at hk
      refine e_held (zCn_Q hv hc).1 (by omega) (fun hz => zy1' ?_) (fun hz => zy0' ?_)
      · rw [hz] at hk
        exact hk
      · rw [hz] at hk
        exact hk
    · rw [if_neg (by omega), if_neg (by omega), if_neg (by omega), if_neg (by omega)] at hk
      exact hk
theorem e12_face (hv : zV p) (hc : zMn' μ p) (hk : ∀ m, (∀ o i, (o < 130 ∨ 132 < o) → m o i = μ o i) → K (zaF p a b) m) : z_ci m_X12_face [(2, 113), (0, a), (0, b)] μ (d + 8) K := by
  have sk := zV_sk hv
  have F0 : 0 ≤ pF p ∧ pF p ≤ 30 := sk.1
  have G : zGm μ (pF p) (pa p) (pe p) (pq p) := zMK_G hc.1
  have hk0 := hk μ (fun _ _ _ => rfl)
  unfold zaF at hk hk0
  refine V_X12_face (e12_isFace ⟨by rw [G.1]; omega, by rw [G.1]; omega⟩ (fun q => ?_) (fun q => ?_))
  · rw [G.1] at q
    rw [if_neg q] at hk0
    exact zy0' hk0
  · rw [G.1] at q
    rw [if_pos q] at hk hk0
    obtain ⟨c1, c2⟩ := hc.1.1.2.2 a q.1 q.2
    refine zy1' (e_in (fun q2 => zy0 ?_) (fun q2 => zy1 ⟨fun q3 => ⟨fun q4 => ?_, fun q4 => ?_⟩, fun q3 => ⟨fun q4 => ⟨(by first | omega | exact ⟨by omega, by omega⟩), ?_⟩, fun q4 => ⟨(by first | omega | exact ⟨by omega, by omega⟩), ?_⟩⟩⟩))
    · rw [if_neg (by omega), if_neg (by omega), if_neg (by omega), if_neg (by omega)] at hk0
      exact hk0
    · rw [if_neg (by omega), if_neg (by omega), if_pos (by omega)] at hk0
      have key : ∀ t : Int, 0 ≤ t → t ≤ 4 → z_ri m_X12_face 73 [some (2, 113), some (0, a), none, some (0, zhs p a t.toNat), some (0, t)] μ (d + 8) K := by
        refine z_up (fun t t0 t1 ih => V_X12_face_73 ⟨fun q3 => ?_, fun q3 => ?_⟩)
        · obtain rfl : t = 4 := by omega
          exact hk0
        · have kr : 0 ≤ 4 * a + t ∧ 4 * a + t < 4 * pF p := by omega
          obtain ⟨s1, s2, s3, s4, s5, s6⟩ := sk.2.1 _ kr.1 kr.2
          rw [(G.2.2.1 _ kr.1 kr.2).2.2]
          have st : zhs p a (t + 1).toNat = zhs p a t.toNat + zi (pH p (pe p (4 * a + t))) := by
            rw [show (t + 1).toNat = t.toNat + 1 by omega]
            show _ + zi (pH p (pe p (4 * a + ((t.toNat : Nat) : Int)))) = _
            rw [show ((t.toNat : Nat) : Int) = t by omega]
          have zb := zhs_b (p := p) (f := a) t.toNat
          have := ih q3
          rw [st] at this
          refine ⟨(by first | omega | exact ⟨by omega, by omega⟩), (by first | omega | exact ⟨by omega, by omega⟩), (by first | omega | exact ⟨by omega, by omega⟩), e12_isHinge (zRwM_H hc.2) (by omega) (fun hz => e_truth (fun w => absurd w (by decide)) (fun _ => ⟨(by first | omega | exact ⟨by omega, by omega⟩), (by first | omega | exact ⟨by omega, by omega⟩), ?_⟩)) (fun hz => e_truth (fun _ => ⟨(by first | omega | exact ⟨by omega, by omega⟩), (by first | omega | exact ⟨by omega, by omega⟩), ?_⟩) (fun w => absurd rfl w))⟩
          · rw [hz] at this
            exact this
          · rw [hz] at this
            exact this
      exact key 0 (by omega) (by omega)
    · rw [zRwM_r hc.2]
      have hr : 0 ≤ pr p ∧ pr p < pF p := by
        have := hv.2.2.2.2.2.1
        omega
      refine e12_areJoined sk G (zRwM_H hc.2) hr q (fun m hm hj => e_truth (fun w => absurd w (by decide)) (fun _ => ?_)) (fun m hm hj => e_truth (fun _ => ?_) (fun w => absurd rfl w))
      · have := hk m (fun o i w => hm.1 o i (by omega) (by omega) (by omega))
        rw [if_neg (by omega), if_neg (by omega), if_neg (by omega), if_pos q4, (zPl_J hv q).mpr hj] at this
        exact this
      · have := hk m (fun o i w => hm.1 o i (by omega) (by omega) (by omega))
        have np : zPl p a = false := by
          cases hz : zPl p a with
          | false => rfl
          | true => exact absurd ((zPl_J hv q).mp hz) hj
        rw [if_neg (by omega), if_neg (by omega), if_neg (by omega), if_pos q4, np] at this
        exact this
    · rw [if_neg (by omega), if_pos (by omega), ← c2] at hk0
      exact hk0
    · rw [if_pos q4, ← c1] at hk0
      exact hk0
theorem e_side (hv : zV p) (hc : zCn' μ p) (hk : K (zaS p a b c) μ) : z_ci m_X11_side [(2, 1), (0, a), (0, b), (0, c)] μ (d + 8) K := by
  have sk := zV_sk hv
  have F0 : 0 ≤ pF p ∧ pF p ≤ 30 := sk.1
  have G : zGc μ (pF p) (pa p) (pe p) (pq p) := zCK_G hc.1
  unfold zaS at hk
  refine V_X11_side (e_isFace (fun q => ?_) (fun q => ?_))
  · rw [G.1] at q
    rw [if_neg (fun w => q w.1)] at hk
    exact zy0' hk
  · rw [G.1] at q
    refine zy1' ⟨fun q2 => ?_, fun q2 => ⟨fun q3 => ?_, fun q3 => ?_⟩⟩
    · rw [if_neg (by omega)] at hk
      exact hk
    · rw [if_pos ⟨q, q2, q3⟩] at hk
      obtain ⟨g1, g2⟩ := G.2.2.1 (4 * a + b) (by omega) (by omega)
      rw [g1, g2]
      refine ⟨(by first | omega | exact ⟨by omega, by omega⟩), (by first | omega | exact ⟨by omega, by omega⟩), fun w => ⟨(by first | omega | exact ⟨by omega, by omega⟩), ?_⟩, fun w => ⟨(by first | omega | exact ⟨by omega, by omega⟩), ?_⟩, fun w => ⟨(by first | omega | exact ⟨by omega, by omega⟩), ?_⟩, fun w => ?_⟩
      · rw [if_pos w] at hk
        exact hk
      · rw [if_neg (by omega), if_pos w] at hk
        exact hk
      · rw [if_neg (by omega), if_neg (by omega), if_pos w] at hk
        exact hk
      · rw [if_neg (by omega), if_neg (by omega), if_neg (by omega)] at hk
        exact hk
    · rw [if_neg (by omega)] at hk
      exact hk
theorem e12_side (hv : zV p) (hc : zMn' μ p) (hk : K (zaS p a b c) μ) : z_ci m_X12_side [(2, 113), (0, a), (0, b), (0, c)] μ (d + 8) K := by
  have sk := zV_sk hv
  have F0 : 0 ≤ pF p ∧ pF p ≤ 30 := sk.1
  have G : zGm μ (pF p) (pa p) (pe p) (pq p) := zMK_G hc.1
  unfold zaS at hk
  refine V_X12_side (e12_isFace ⟨by rw [G.1]; omega, by rw [G.1]; omega⟩ (fun q => ?_) (fun q => ?_))
  · rw [G.1] at q
    rw [if_neg (fun w => q w.1)] at hk
    exact zy0' hk
  · rw [G.1] at q
    refine zy1' (e_in (fun q2 => zy0' ?_) (fun q2 => zy1' (e_in (fun q3 => zy0 ?_) (fun q3 => zy1 ?_))))
    · rw [if_neg (fun w => q2 w.2)] at hk
      exact hk
    · rw [if_pos ⟨q, q2⟩, if_neg (by omega), if_neg (by omega), if_neg (by omega)] at hk
      exact hk
    · rw [if_pos ⟨q, q2⟩] at hk
      obtain ⟨g1, g2, g3⟩ := G.2.2.1 (4 * a + b) (by omega) (by omega)
      rw [g1, g2, g3]
      refine ⟨(by first | omega | exact ⟨by omega, by omega⟩), (by first | omega | exact ⟨by omega, by omega⟩), fun w => ⟨fun w2 => ⟨(by first | omega | exact ⟨by omega, by omega⟩), ?_⟩, fun w2 => ⟨(by first | omega | exact ⟨by omega, by omega⟩), ?_⟩⟩, fun w => ⟨(by first | omega | exact ⟨by omega, by omega⟩), ?_⟩⟩
      · rw [if_neg w, if_neg w2, if_pos (by omega)] at hk
        exact hk
      · rw [if_neg w, if_pos w2] at hk
        exact hk
      · rw [if_pos w] at hk
        exact hk
theorem e_edge (hv : zV p) (hc : zCn' μ p) (hk : K (zaE p a b) μ) : z_ci m_X11_edge [(2, 1), (0, a), (0, b)] μ (d + 8) K := by
  have sk := zV_sk hv
  have F0 : 0 ≤ pF p ∧ pF p ≤ 30 := sk.1
  have G : zGc μ (pF p) (pa p) (pe p) (pq p) := zCK_G hc.1
  unfold zaE at hk
  refine V_X11_edge (e_isEdge (fun q => ?_) (fun q => ?_))
  · rw [G.2.1] at q
    rw [if_neg q] at hk
    exact zy0 hk
  · rw [G.2.1] at q
    rw [if_pos q] at hk
    obtain ⟨w1, w2, w3⟩ := zV_e hv q
    obtain ⟨g1, g2⟩ := G.2.2.2 a q.1 q.2
    have g3 := (hc.1.2.2.2.1 a q.1 q.2).2.2
    refine zy1 ⟨fun r => ?_, fun r => ?_, fun r => ⟨(by first | omega | exact ⟨by omega, by omega⟩), (by first | omega | exact ⟨by omega, by omega⟩), (by first | omega | exact ⟨by omega, by omega⟩), (by first | omega | exact ⟨by omega, by omega⟩), ?_⟩, fun r => ⟨(by first | omega | exact ⟨by omega, by omega⟩), (by first | omega | exact ⟨by omega, by omega⟩), (by first | omega | exact ⟨by omega, by omega⟩), (by first | omega | exact ⟨by omega, by omega⟩), ?_⟩, fun r => ⟨(by first | omega | exact ⟨by omega, by omega⟩), ?_⟩, fun r => ⟨(by first | omega | exact ⟨by omega, by omega⟩), ?_⟩, fun r => ?_, fun r => ?_, fun r => ?_⟩
    · subst r
      rw [if_pos rfl] at hk
      exact e_faceOf G w3 q (Or.inl rfl) hk
    · subst r
      rw [if_neg (by decide), if_pos rfl] at hk
      exact e_faceOf G w3 q (Or.inr rfl) hk
    · subst r
      rw [if_neg (by decide), if_neg (by decide), if_pos rfl] at hk
      rw [show 2 * a + 2 - 2 = 2 * a by omega, g1]
      exact hk
    · subst r
      rw [if_neg (by decide), if_neg (by decide), if_neg (by decide), if_pos rfl] at hk
      rw [show 2 * a + 3 - 2 = 2 * a + 1 by omega, g2]
      exact hk
    · subst r
      rw [if_neg (by decide), if_neg (by decide), if_neg (by decide), if_neg (by decide), if_pos rfl] at hk
      rw [g3]
      exact hk
    · subst r
      rw [if_neg (by decide), if_neg (by decide), if_neg (by decide), if_neg (by decide), if_neg (by decide), if_pos rfl] at hk
      rw [show μ 22 a = pW p a from hc.2.1.2.2 a q.1 (by omega)]
      exact hk
    · subst r
      rw [if_neg (by decide), if_neg (by decide), if_neg (by decide), if_neg (by decide), if_neg (by decide), if_neg (by decide), if_pos rfl] at hk
      refine e_isHinge zkd21 hc.2.1.1 (by omega) (fun hz => zy1' ?_) (fun hz => zy0' ?_)
      · rw [hz] at hk
        exact hk
      · rw [hz] at hk
        exact hk
    · subst r
      rw [if_neg (by decide), if_neg (by decide), if_neg (by decide), if_neg (by decide), if_neg (by decide), if_neg (by decide), if_neg (by decide), if_pos rfl] at hk
      refine e_isFree hv hc q (fun hz => zy1' ?_) (fun hz => zy0' ?_)
      · rw [hz] at hk
        exact hk
      · rw [hz] at hk
        exact hk
    · rw [if_neg (by omega), if_neg (by omega), if_neg (by omega), if_neg (by omega), if_neg (by omega), if_neg (by omega), if_neg (by omega), if_neg (by omega)] at hk
      exact hk
theorem e12_edge (hv : zV p) (hc : zMn' μ p) (hk : ∀ m, (∀ o i, (o < 130 ∨ 132 < o) → (o < 135 ∨ 137 < o) → m o i = μ o i) → K (zaE p a b) m) : z_ci m_X12_edge [(2, 113), (0, a), (0, b)] μ (d + 8) K := by
  have sk := zV_sk hv
  have F0 : 0 ≤ pF p ∧ pF p ≤ 30 := sk.1
  have G : zGm μ (pF p) (pa p) (pe p) (pq p) := zMK_G hc.1
  have hk0 := hk μ (fun _ _ _ _ => rfl)
  unfold zaE at hk hk0
  refine V_X12_edge (e12_isEdge ⟨by rw [G.2.1]; omega, by rw [G.2.1]; omega⟩ (fun q => ?_) (fun q => ?_))
  · rw [G.2.1] at q
    rw [if_neg q] at hk0
    exact zy0 hk0
  · rw [G.2.1] at q
    rw [if_pos q] at hk hk0
    obtain ⟨w1, w2, w3⟩ := zV_e hv q
    have g1 := G.2.2.2 a q.1 q.2
    obtain ⟨g2, g3, g4⟩ := G.2.2.1 _ w1.1 w1.2
    have g5 := (hc.1.2.1 _ w1.1 w1.2).2.2.1
    refine zy1 ?_
    rw [g1]
    refine ⟨(by first | omega | exact ⟨by omega, by omega⟩), fun r => ⟨(by first | omega | exact ⟨by omega, by omega⟩), ?_⟩, fun r => ⟨(by first | omega | exact ⟨by omega, by omega⟩), ?_⟩, fun r => ⟨(by first | omega | exact ⟨by omega, by omega⟩), ?_⟩, fun r => ⟨(by first | omega | exact ⟨by omega, by omega⟩), ?_⟩, fun r => ⟨(by first | omega | exact ⟨by omega, by omega⟩), ?_⟩, fun r => ⟨(by first | omega | exact ⟨by omega, by omega⟩), (by first | omega | exact ⟨by omega, by omega⟩), ?_⟩, fun r => ⟨(by first | omega | exact ⟨by omega, by omega⟩), (by first | omega | exact ⟨by omega, by omega⟩), ?_⟩, fun r => ?_, fun r => ?_⟩
    · subst r
      rw [if_pos rfl] at hk0
      exact hk0
    · subst r
      rw [if_neg (by decide), if_pos rfl] at hk0
      rw [g2]
      exact hk0
    · subst r
      rw [if_neg (by decide), if_neg (by decide), if_pos rfl] at hk0
      exact hk0
    · subst r
      rw [if_neg (by decide), if_neg (by decide), if_neg (by decide), if_pos rfl] at hk0
      rw [g3]
      exact hk0
    · subst r
      rw [if_neg (by decide), if_neg (by decide), if_neg (by decide), if_neg (by decide), if_pos rfl] at hk0
      rw [g5]
      exact hk0
    · subst r
      rw [if_neg (by decide), if_neg (by decide), if_neg (by decide), if_neg (by decide), if_neg (by decide), if_pos rfl] at hk0
      rw [zRwM_W hc.2 q.1 (by omega)]
      exact hk0
    · subst r
      rw [if_neg (by decide), if_neg (by decide), if_neg (by decide), if_neg (by decide), if_neg (by decide), if_neg (by decide), if_pos rfl] at hk0
      rw [zRwM_H hc.2 a q.1 (by omega)]
      exact hk0
    · subst r
      refine e12_placed hv hc (fun m fm qm => ?_)
      have := hk m fm
      rw [if_neg (by decide), if_neg (by decide), if_neg (by decide), if_neg (by decide), if_neg (by decide), if_neg (by decide), if_neg (by decide), if_pos rfl] at this
      refine e12_isFree hv (zMn_fr hc hv.1 (fun x i w => fm x i (by omega) (by omega))) qm q (fun hz => e_truth (fun w => absurd w (by decide)) (fun _ => ?_)) (fun hz => e_truth (fun _ => ?_) (fun w => absurd rfl w))
      · rw [hz] at this
        exact this
      · rw [hz] at this
        exact this
    · rw [if_neg (by omega), if_neg (by omega), if_neg (by omega), if_neg (by omega), if_neg (by omega), if_neg (by omega), if_neg (by omega), if_neg (by omega)] at hk0
      exact hk0
theorem zvX_r (hF : 0 ≤ pF p ∧ pF p ≤ 30) (hv : zV p) (hk : 0 ≤ k ∧ k < 4 * pF p) : 0 ≤ zvX (pS p) (pn p) k ∧ zvX (pS p) (pn p) k < zVs (pS p) (pn p) ∧ zVs (pS p) (pn p) ≤ 120 := by
  have hA := zA_ac hv.1.1 (zSt_Ds hv.2.2.1)
  have hp := zPm_ph hA
  obtain ⟨l1, l2, l3, l4⟩ := zle_p (p := zph (zac (pS p) (pn p))) (q := zps (zac (pS p) (pn p))) (N := 4 * zFs (pS p) (pn p)) hk
  have ll := zle_le hp hk
  have lt := zN_lt' (P := zil (zph (zac (pS p) (pn p))) (zps (zac (pS p) (pn p))) (4 * zFs (pS p) (pn p))) (j := 4 * zFs (pS p) (pn p)) l1 (by have := hk.2; show _ < 4 * pF p; omega) (by unfold zil; exact decide_eq_true ll)
  refine ⟨(zN_r _).1, lt, ?_⟩
  have := (zN_r (P := zil (zph (zac (pS p) (pn p))) (zps (zac (pS p) (pn p))) (4 * zFs (pS p) (pn p))) (4 * zFs (pS p) (pn p)).toNat).2
  have e : ((4 * zFs (pS p) (pn p)).toNat : Int) = 4 * pF p := by
    show ((4 * pF p).toNat : Int) = 4 * pF p
    omega
  unfold zVs
  omega
theorem e_corner (hv : zV p) (hc : zCn' μ p) (hk : K (zaC p a b c) μ) : z_ci m_X11_corner [(2, 1), (0, a), (0, b), (0, c)] μ (d + 8) K := by
  have sk := zV_sk hv
  have F0 : 0 ≤ pF p ∧ pF p ≤ 30 := sk.1
  have G : zGc μ (pF p) (pa p) (pe p) (pq p) := zCK_G hc.1
  unfold zaC at hk
  refine V_X11_corner (e_isFace (fun q => ?_) (fun q => ?_))
  · rw [G.1] at q
    rw [if_neg (fun w => q w.1)] at hk
    exact zy0' hk
  · rw [G.1] at q
    refine zy1' ⟨fun q2 => ?_, fun q2 => ⟨fun q3 => ?_, fun q3 => ?_⟩⟩
    · rw [if_neg (by omega)] at hk
      exact hk
    · rw [if_pos ⟨q, q2, q3⟩] at hk
      have kr : 0 ≤ 4 * a + b ∧ 4 * a + b < 4 * pF p := by omega
      have g := (hc.1.2.1 _ kr.1 kr.2).2.2
      obtain ⟨v1, v2, v3⟩ := zvX_r F0 hv kr
      have eV : μ 6 11 = zVs (pS p) (pn p) := hc.1.2.2.2.2.1
      rw [g]
      refine ⟨(by first | omega | exact ⟨by omega, by omega⟩), (by first | omega | exact ⟨by omega, by omega⟩), (by first | omega | exact ⟨by omega, by omega⟩), fun w => ?_, fun w => e_isVertex (fun r => ?_) (fun r => zy1' ⟨(by first | omega | exact ⟨by omega, by omega⟩), ?_⟩), fun w => ?_⟩
      · rw [if_pos w] at hk
        exact hk
      · rw [eV] at r
        exact absurd ⟨v1, v2⟩ r
      · rw [if_neg (by omega), if_pos w, ← hc.1.2.2.2.2.2 _ v1 v2] at hk
        exact hk
      · rw [if_neg (by omega), if_neg (by omega)] at hk
        exact hk
    · rw [if_neg (by omega)] at hk
      exact hk
theorem e12_corner (hv : zV p) (hc : zMn' μ p) (hk : K (zaC p a b c) μ) : z_ci m_X12_corner [(2, 113), (0, a), (0, b), (0, c)] μ (d + 8) K := by
  have sk := zV_sk hv
  have F0 : 0 ≤ pF p ∧ pF p ≤ 30 := sk.1
  have G : zGm μ (pF p) (pa p) (pe p) (pq p) := zMK_G hc.1
  unfold zaC at hk
  refine V_X12_corner (e12_isFace ⟨by rw [G.1]; omega, by rw [G.1]; omega⟩ (fun q => ?_) (fun q => ?_))
  · rw [G.1] at q
    rw [if_neg (fun w => q w.1)] at hk
    exact zy0' hk
  · rw [G.1] at q
    refine zy1' (e_in (fun q2 => zy0' ?_) (fun q2 => zy1' (e_in (fun q3 => zy0 ?_) (fun q3 => zy1 ?_))))
    · rw [if_neg (fun w => q2 w.2)] at hk
      exact hk
    · rw [if_pos ⟨q, q2⟩, if_neg (by omega), if_neg (by omega)] at hk
      exact hk
    · rw [if_pos ⟨q, q2⟩] at hk
      have kr : 0 ≤ 4 * a + b ∧ 4 * a + b < 4 * pF p := by omega
      have g := (hc.1.2.1 _ kr.1 kr.2).2.2.2.2
      obtain ⟨v1, v2, v3⟩ := zvX_r F0 hv kr
      rw [g]
      refine ⟨(by first | omega | exact ⟨by omega, by omega⟩), (by first | omega | exact ⟨by omega, by omega⟩), (by first | omega | exact ⟨by omega, by omega⟩), fun w => ⟨(by first | omega | exact ⟨by omega, by omega⟩), ?_⟩, fun w => ?_⟩
      · rw [if_neg w, if_pos (by omega), ← hc.1.2.2.2.2.2 _ v1 v2] at hk
        exact hk
      · rw [if_pos w] at hk
        exact hk
end LL

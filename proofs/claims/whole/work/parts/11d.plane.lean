/-! looks: place, over, free -/
def zaP (p : zP) (a b : Int) : Int := if zPl p a = true ∧ 0 ≤ b ∧ b ≤ 2 then (if b = 0 then zX p a else if b = 1 then zY p a else zT p a) else -1000
def zovt (p : zP) (t : Int) : Bool := decide (t / 30 < t % 30) && zPl p (t / 30) && zPl p (t % 30) && decide (zX p (t / 30) = zX p (t % 30)) && decide (zY p (t / 30) = zY p (t % 30))
def zoN (p : zP) : Int := zN 900 (zovt p)
def zaO (p : zP) (k : Int) : Int := if k < -1 then -1 else if k = -1 then zoN p else if k < zoN p then 100 * (zel (zovt p) 900 k / 30) + zel (zovt p) 900 k % 30 else -2
def zaR (p : zP) (k : Int) : Int := if k < -1 then -1 else if k = -1 then zN (2 * pF p).toNat (zfre p) else if k < zN (2 * pF p).toNat (zfre p) then zel (zfre p) (2 * pF p) k else -2
theorem zN_flat {P : Int → Bool} {i j : Int} (h0 : 0 ≤ i) (h : i ≤ j) (hp : ∀ t, i ≤ t → t < j → P t = false) : zN j.toNat P = zN i.toNat P := by
  have key : ∀ k, i ≤ k → k ≤ j → zN k.toNat P = zN i.toNat P := by
    intro k k0 k1
    have : ∀ n : Nat, i + n ≤ j → zN (i + n).toNat P = zN i.toNat P := by
      intro n
      induction n with
      | zero => intro _; rw [show i + ((0 : Nat) : Int) = i by omega]
      | succ n ih =>
        intro hn
        rw [show i + ((n + 1 : Nat) : Int) = (i + n) + 1 by omega, zN_up (by omega), ih (by omega), zi_f (hp _ (by omega) (by omega))]
        omega
    have := this (k - i).toNat (by omega)
    rw [show i + (((k - i).toNat : Nat) : Int) = k by omega] at this
    exact this
  exact key j h (Int.le_refl _)
section LP
variable {a b c k v r f : Int} {p : zP} {L : List Int} {μ μ0 : z_Mem} {d : Nat} {K : Int → z_Mem → Prop} {Kn : z_Mem → Prop}
theorem e_place (hv : zV p) (hc : zCn' μ p) (hk : K (zaP p a b) μ) : z_ci m_X11_place [(2, 1), (0, a), (0, b)] μ (d + 8) K := by
  have sk := zV_sk hv
  have F0 : 0 ≤ pF p ∧ pF p ≤ 30 := sk.1
  have G : zGc μ (pF p) (pa p) (pe p) (pq p) := zCK_G hc.1
  obtain ⟨Q, _⟩ := zCn_Q hv hc
  unfold zaP at hk
  refine V_X11_place (e_isFace (fun q => ?_) (fun q => ?_))
  · rw [G.1] at q
    rw [if_neg (fun w => q (zPl_in hv w.1).1)] at hk
    exact zy0' hk
  · rw [G.1] at q
    refine zy1' (e_held Q (by omega) (fun hz => zy1 ?_) (fun hz => zy0 ?_))
    · obtain ⟨p1, p2, p3⟩ := Q.2.2 a hz
      rw [p1, p2, p3]
      refine ⟨fun w => ⟨(by first | omega | exact ⟨by omega, by omega⟩), ?_⟩, fun w => ⟨(by first | omega | exact ⟨by omega, by omega⟩), ?_⟩, fun w => ⟨(by first | omega | exact ⟨by omega, by omega⟩), ?_⟩, fun w => ?_⟩
      · rw [if_pos ⟨hz, by omega⟩, if_pos w] at hk
        exact hk
      · rw [if_pos ⟨hz, by omega⟩, if_neg (by omega), if_pos w] at hk
        exact hk
      · rw [if_pos ⟨hz, by omega⟩, if_neg (by omega), if_neg (by omega)] at hk
        exact hk
      · rw [if_neg (fun x => by omega)] at hk
        exact hk
    · rw [if_neg (fun x => by rw [hz] at x; cases x.1)] at hk
      exact hk
theorem e12_place (hv : zV p) (hc : zMn' μ p) (hk : ∀ m, (∀ o i, (o < 130 ∨ 132 < o) → (o < 135 ∨ 137 < o) → m o i = μ o i) → K (zaP p a b) m) : z_ci m_X12_place [(2, 113), (0, a), (0, b)] μ (d + 8) K := by
  have sk := zV_sk hv
  have F0 : 0 ≤ pF p ∧ pF p ≤ 30 := sk.1
  have G : zGm μ (pF p) (pa p) (pe p) (pq p) := zMK_G hc.1
  have hk0 := hk μ (fun _ _ _ _ => rfl)
  unfold zaP at hk hk0
  refine V_X12_place (e12_isFace ⟨by rw [G.1]; omega, by rw [G.1]; omega⟩ (fun q => ?_) (fun q => ?_))
  · rw [G.1] at q
    rw [if_neg (fun w => q (zPl_in hv w.1).1)] at hk0
    exact zy0' hk0
  · rw [G.1] at q
    refine zy1' (e_in (fun q2 => zy0 ?_) (fun q2 => zy1 ?_))
    · rw [if_neg (fun w => q2 w.2)] at hk0
      exact hk0
    · refine e12_placed hv hc (fun m fm qm => ?_)
      have := hk m fm
      rw [qm.1 a q.1 q.2]
      cases hz : zPl p a with
      | false =>
        rw [if_neg (fun x => by rw [hz] at x; cases x.1)] at this
        exact ⟨(by first | omega | exact ⟨by omega, by omega⟩), fun w => absurd rfl w, fun _ => this⟩
      | true =>
        rw [if_pos ⟨hz, q2⟩] at this
        obtain ⟨p1, p2, p3⟩ := qm.2 a hz
        rw [p1, p2, p3]
        refine ⟨(by first | omega | exact ⟨by omega, by omega⟩), fun _ => ⟨fun w => ⟨fun w2 => ⟨(by first | omega | exact ⟨by omega, by omega⟩), ?_⟩, fun w2 => ⟨(by first | omega | exact ⟨by omega, by omega⟩), ?_⟩⟩, fun w => ⟨(by first | omega | exact ⟨by omega, by omega⟩), ?_⟩⟩, fun w => absurd w (by decide)⟩
        · rw [if_neg w, if_neg w2] at this
          exact this
        · rw [if_neg w, if_pos w2] at this
          exact this
        · rw [if_pos w] at this
          exact this
theorem zovt_F (hv : zV p) {t : Int} (ht : 0 ≤ t) (h : zovt p t = true) : t / 30 < t % 30 ∧ (0 ≤ t / 30 ∧ t / 30 < pF p) ∧ (t % 30 < pF p) ∧ zPl p (t / 30) = true ∧ zPl p (t % 30) = true ∧ zX p (t / 30) = zX p (t % 30) ∧ zY p (t / 30) = zY p (t % 30) := by
  unfold zovt at h
  rw [Bool.and_eq_true, Bool.and_eq_true, Bool.and_eq_true, Bool.and_eq_true] at h
  obtain ⟨⟨⟨⟨h1, h2⟩, h3⟩, h4⟩, h5⟩ := h
  exact ⟨of_decide_eq_true h1, (zPl_in hv h2).1, (zPl_in hv h3).1.2, h2, h3, of_decide_eq_true h4, of_decide_eq_true h5⟩
theorem zoN_b : 0 ≤ zoN p ∧ zoN p ≤ 900 := by
  have := zN_r (P := zovt p) 900
  exact this
theorem zov_row {a b i j : Int} (ha : 0 ≤ a ∧ a < 30) (hi : 30 * a ≤ i) (hj : j ≤ 30 * a + 30) (hij : i ≤ j) (h : ∀ t, i ≤ t → t < j → t % 30 ≤ a ∨ zPl p a = false ∨ zPl p (t % 30) = false) : zN j.toNat (zovt p) = zN i.toNat (zovt p) := by
  refine zN_flat (by omega) hij (fun t t0 t1 => ?_)
  cases hz : zovt p t with
  | false => rfl
  | true =>
    unfold zovt at hz
    rw [Bool.and_eq_true, Bool.and_eq_true, Bool.and_eq_true, Bool.and_eq_true, show t / 30 = a by omega] at hz
    obtain ⟨⟨⟨⟨h1, h2⟩, h3⟩, h4⟩, h5⟩ := hz
    have h1 := of_decide_eq_true h1
    rcases h t t0 t1 with w | w | w
    · omega
    · rw [w] at h2
      cases h2
    · rw [w] at h3
      cases h3
theorem zov_at (ha : 0 ≤ a ∧ a < b) (hb : b < 30) : zovt p (30 * a + b) = (zPl p a && zPl p b && decide (zX p a = zX p b) && decide (zY p a = zY p b)) := by
  unfold zovt
  rw [show (30 * a + b) / 30 = a by omega, show (30 * a + b) % 30 = b by omega, decide_eq_true ha.2]
  rfl
theorem e_overlap (hv : zV p) (hc : zCn' μ p) (h1 : ¬ k < -1) (hk : K (zaO p k) μ) : z_ci m_X6_overlap [(2, 23), (0, k)] μ (d + 1) K := by
  have sk := zV_sk hv
  have F0 : 0 ≤ pF p ∧ pF p ≤ 30 := sk.1
  obtain ⟨Q, _⟩ := zCn_Q hv hc
  have ho : z_kd 23 = 6 := by decide +kernel
  have zb := zoN_b (p := p)
  unfold zaO at hk
  rw [if_neg h1] at hk
  have outer : ∀ a : Int, 0 ≤ a → a ≤ 30 → (k < 0 ∨ zN (30 * a).toNat (zovt p) ≤ k) → z_ri m_X6_overlap 4 [some (2, 23), some (0, k), some (0, zN (30 * a).toNat (zovt p)), some (0, a), none] μ (d + 1) K := by
    refine z_up (fun a a0 a1 ih hnf => V_X6_overlap_4 ho ⟨fun q => ?_, fun q => ⟨(by first | omega | exact ⟨by omega, by omega⟩), ?_⟩⟩)
    · obtain rfl : a = 30 := by omega
      refine ⟨fun w => ?_, fun w => ?_⟩
      · rw [if_neg w, if_neg (by show ¬ k < zN 900 (zovt p); have e : (30 * (30 : Int)).toNat = 900 := rfl; rw [e] at hnf; omega)] at hk
        exact hk
      · rw [if_pos w] at hk
        exact hk
    · have inner : ∀ b : Int, a + 1 ≤ b → b ≤ 30 → (k < 0 ∨ zN (30 * a + b).toNat (zovt p) ≤ k) → z_ri m_X6_overlap 15 [some (2, 23), some (0, k), some (0, zN (30 * a + b).toNat (zovt p)), some (0, a), some (0, b)] μ (d + 1) K := by
        refine z_up (fun b b0 b1 ih2 hnf2 => V_X6_overlap_15 ho ⟨fun q1 => ⟨(by first | omega | exact ⟨by omega, by omega⟩), ?_⟩, fun q1 => ?_⟩)
        · obtain rfl : b = 30 := by omega
          have := ih q (by rw [show 30 * (a + 1) = 30 * a + 30 by omega]; exact hnf2)
          rw [show 30 * (a + 1) = 30 * a + 30 by omega] at this
          exact this
        · have zr := zN_r (P := zovt p) (30 * a + b).toNat
          have zr2 := zN_mono (P := zovt p) (n := (30 * a + b).toNat) (k := 900) (by omega)
          refine e_held Q (by omega) (fun hz1 => zy1' ?_) (fun hz1 => zy0' ⟨(by first | omega | exact ⟨by omega, by omega⟩), ?_⟩)
          · have at1 := zov_at (p := p) (a := a) (b := b) ⟨a0, by omega⟩ q1
            rw [hz1] at at1
            have nx := ih2 (by omega)
            rw [show 30 * a + (b + 1) = (30 * a + b) + 1 by omega, zN_up (by omega), at1] at nx
            refine e_held Q (by omega) (fun hz2 => zy1' ?_) (fun hz2 => zy0' ⟨(by first | omega | exact ⟨by omega, by omega⟩), ?_⟩)
            · obtain ⟨p1, p2, p3⟩ := Q.2.2 a hz1
              obtain ⟨q1', q2', q3'⟩ := Q.2.2 b hz2
              have e24 : ∀ i, μ (23 + 1) i = μ 24 i := fun _ => rfl
              have e25 : ∀ i, μ (23 + 2) i = μ 25 i := fun _ => rfl
              rw [hz2] at nx at1
              rw [e24, e24, e25, e25, p1, p2, q1', q2']
              refine ⟨(by first | omega | exact ⟨by omega, by omega⟩), (by first | omega | exact ⟨by omega, by omega⟩), fun w => ⟨(by first | omega | exact ⟨by omega, by omega⟩), ?_⟩, fun w => ⟨(by first | omega | exact ⟨by omega, by omega⟩), (by first | omega | exact ⟨by omega, by omega⟩), fun w2 => ⟨(by first | omega | exact ⟨by omega, by omega⟩), ?_⟩, fun w2 => ⟨fun w3 => ⟨(by first | omega | exact ⟨by omega, by omega⟩), (by first | omega | exact ⟨by omega, by omega⟩), ?_⟩, fun w3 => ⟨(by first | omega | exact ⟨by omega, by omega⟩), (by first | omega | exact ⟨by omega, by omega⟩), ?_⟩⟩⟩⟩
              · rw [decide_eq_false w] at nx
                have e : ∀ x : Int, x + zi (true && true && false && decide (zY p a = zY p b)) = x := fun x => by show x + 0 = x; omega
                rw [e] at nx
                exact nx hnf2
              · rw [decide_eq_true w, decide_eq_false w2] at nx
                have e : ∀ x : Int, x + zi (true && true && true && false) = x := fun x => by show x + 0 = x; omega
                rw [e] at nx
                exact nx hnf2
              · rw [decide_eq_true w, decide_eq_true w2] at nx
                have e : ∀ x : Int, x + zi (true && true && true && true) = x + 1 := fun x => rfl
                rw [e] at nx
                exact nx (by omega)
              · have hit : zovt p (30 * a + b) = true := by
                  rw [at1, decide_eq_true w, decide_eq_true w2]
                  rfl
                have ze := zel_of (P := zovt p) (m := 900) (j := 30 * a + b) (by omega) hit
                have zl := zN_lt' (P := zovt p) (i := 30 * a + b) (j := 900) (by omega) (by omega) hit
                rw [if_neg (by omega), if_pos (by show k < zN 900 _; have e : (900 : Int).toNat = 900 := rfl; rw [e] at zl; omega), ← w3, ze, show (30 * a + b) / 30 = a by omega, show (30 * a + b) % 30 = b by omega] at hk
                exact hk
            · rw [hz2] at nx
              have e : ∀ x : Int, x + zi (true && false && decide (zX p a = zX p b) && decide (zY p a = zY p b)) = x := fun x => by show x + 0 = x; omega
              rw [e] at nx
              exact nx hnf2
          · have e := zov_row (p := p) (a := a) (b := b) (i := 30 * a + b) (j := 30 * a + 30) ⟨a0, q⟩ (by omega) (by omega) (by omega) (fun t t0 t1 => Or.inr (Or.inl hz1))
            have := ih q (by rw [show 30 * (a + 1) = 30 * a + 30 by omega, e]; exact hnf2)
            rw [show 30 * (a + 1) = 30 * a + 30 by omega, e] at this
            exact this
      have e := zov_row (p := p) (a := a) (b := a) (i := 30 * a) (j := 30 * a + (a + 1)) ⟨a0, q⟩ (by omega) (by omega) (by omega) (fun t t0 t1 => Or.inl (by omega))
      have := inner (a + 1) (by omega) (by omega) (by rw [e]; exact hnf)
      rw [e] at this
      exact this
  exact V_X6_overlap ho (outer 0 (by omega) (by omega) (by show k < 0 ∨ (0 : Int) ≤ k; omega))
theorem e_over (hv : zV p) (hc : zCn' μ p) (hk : K (zaO p k) μ) : z_ci m_X11_over [(2, 1), (0, k)] μ (d + 8) K := by
  refine V_X11_over ⟨fun q => e_overlap hv hc (by omega) hk, fun q => ?_⟩
  unfold zaO at hk
  rw [if_pos q] at hk
  exact hk
theorem e12_areOver (hF : pF p ≤ 30) (hq : zQM μ p) (ha : 0 ≤ a ∧ a < b) (hb : b < pF p) (h : K (zi (zovt p (30 * a + b))) μ) : z_ci m_X12_areOver [(2, 113), (0, a), (0, b)] μ d K := by
  rw [zov_at ha (by omega)] at h
  refine V_X12_areOver ?_
  rw [hq.1 a ha.1 (by omega), hq.1 b (by omega) hb]
  cases hz1 : zPl p a with
  | false =>
    rw [hz1] at h
    exact ⟨(by first | omega | exact ⟨by omega, by omega⟩), fun _ => h, fun q => absurd rfl q⟩
  | true =>
    rw [hz1] at h
    refine ⟨(by first | omega | exact ⟨by omega, by omega⟩), fun q => absurd q (by decide), fun _ => ⟨(by first | omega | exact ⟨by omega, by omega⟩), ?_⟩⟩
    cases hz2 : zPl p b with
    | false =>
      rw [hz2] at h
      exact ⟨fun _ => h, fun q => absurd rfl q⟩
    | true =>
      rw [hz2] at h
      obtain ⟨p1, p2, p3⟩ := hq.2 a hz1
      obtain ⟨q1', q2', q3'⟩ := hq.2 b hz2
      rw [p1, p2, q1', q2']
      refine ⟨fun q => absurd q (by decide), fun _ => ⟨(by first | omega | exact ⟨by omega, by omega⟩), (by first | omega | exact ⟨by omega, by omega⟩), fun w => ?_, fun w => ⟨(by first | omega | exact ⟨by omega, by omega⟩), (by first | omega | exact ⟨by omega, by omega⟩), fun w2 => ?_, fun w2 => ?_⟩⟩⟩
      · rw [decide_eq_false w] at h
        exact h
      · rw [decide_eq_true w, decide_eq_false w2] at h
        exact h
      · rw [decide_eq_true w, decide_eq_true w2] at h
        exact h
theorem e12_over (hv : zV p) (hc : zMn' μ p) (hk : ∀ m, (∀ o i, (o < 130 ∨ 132 < o) → (o < 135 ∨ 137 < o) → m o i = μ o i) → K (zaO p k) m) : z_ci m_X12_over [(2, 113), (0, k)] μ (d + 8) K := by
  have sk := zV_sk hv
  have F0 : 0 ≤ pF p ∧ pF p ≤ 30 := sk.1
  have zb := zoN_b (p := p)
  refine V_X12_over ⟨fun q => e12_placed hv hc (fun m fm qm => ?_), fun q => ?_⟩
  · have hk := hk m fm
    unfold zaO at hk
    rw [if_neg (by omega)] at hk
    have e21 : m 113 21 = pF p := by rw [fm 113 21 (by omega) (by omega)]; exact hc.1.1.2.1
    have outer : ∀ a : Int, 0 ≤ a → a ≤ pF p → (k < 0 ∨ zN (30 * a).toNat (zovt p) ≤ k) → z_ri m_X12_over 16 [some (2, 113), some (0, k), some (0, zN (30 * a).toNat (zovt p)), some (0, a), none] m (d + 8) K := by
      refine z_up (fun a a0 a1 ih hnf => V_X12_over_16 ?_)
      rw [e21]
      refine ⟨fun q => ?_, fun q => ⟨(by first | omega | exact ⟨by omega, by omega⟩), ?_⟩⟩
      · obtain rfl : a = pF p := by omega
        have e : zN 900 (zovt p) = zN (30 * pF p).toNat (zovt p) := zN_flat (i := 30 * pF p) (j := 900) (by omega) (by omega) (fun t t0 t1 => by
          cases hz : zovt p t with
          | false => rfl
          | true =>
            have := (zovt_F hv (by omega) hz).2.1
            omega)
        refine ⟨fun w => ?_, fun w => ?_⟩
        · rw [if_neg w, if_neg (by unfold zoN; rw [e]; omega)] at hk
          exact hk
        · rw [if_pos w] at hk
          unfold zoN at hk
          rw [e] at hk
          exact hk
      · have inner : ∀ b : Int, a + 1 ≤ b → b ≤ pF p → (k < 0 ∨ zN (30 * a + b).toNat (zovt p) ≤ k) → z_ri m_X12_over 29 [some (2, 113), some (0, k), some (0, zN (30 * a + b).toNat (zovt p)), some (0, a), some (0, b)] m (d + 8) K := by
          refine z_up (fun b b0 b1 ih2 hnf2 => V_X12_over_29 ?_)
          rw [e21]
          refine ⟨fun q1 => ⟨(by first | omega | exact ⟨by omega, by omega⟩), ?_⟩, fun q1 => ?_⟩
          · obtain rfl : b = pF p := by omega
            have e := zov_row (p := p) (a := a) (b := a) (i := 30 * a + pF p) (j := 30 * a + 30) ⟨a0, by omega⟩ (by omega) (by omega) (by omega) (fun t t0 t1 => Or.inr (Or.inr (by
              cases hz : zPl p (t % 30) with
              | false => rfl
              | true =>
                have := (zPl_in hv hz).1
                omega)))
            have := ih q (by rw [show 30 * (a + 1) = 30 * a + 30 by omega, e]; exact hnf2)
            rw [show 30 * (a + 1) = 30 * a + 30 by omega, e] at this
            exact this
          · have zr := zN_r (P := zovt p) (30 * a + b).toNat
            have zr2 := zN_mono (P := zovt p) (n := (30 * a + b).toNat) (k := 900) (by omega)
            have nx := ih2 (by omega)
            rw [show 30 * a + (b + 1) = (30 * a + b) + 1 by omega, zN_up (by omega)] at nx
            refine e12_areOver F0.2 qm ⟨a0, by omega⟩ q1 ?_
            cases hit : zovt p (30 * a + b) with
            | false =>
              rw [hit] at nx
              have e : ∀ x : Int, x + zi false = x := fun x => by show x + 0 = x; omega
              rw [e] at nx
              exact ⟨fun w => absurd rfl w, fun _ => ⟨(by first | omega | exact ⟨by omega, by omega⟩), nx hnf2⟩⟩
            | true =>
              rw [hit] at nx
              have e : ∀ x : Int, x + zi true = x + 1 := fun x => rfl
              rw [e] at nx
              refine ⟨fun _ => ⟨fun w3 => ⟨(by first | omega | exact ⟨by omega, by omega⟩), (by first | omega | exact ⟨by omega, by omega⟩), nx (by omega)⟩, fun w3 => ⟨(by first | omega | exact ⟨by omega, by omega⟩), (by first | omega | exact ⟨by omega, by omega⟩), ?_⟩⟩, fun w => absurd w (by decide)⟩
              have ze := zel_of (P := zovt p) (m := 900) (j := 30 * a + b) (by omega) hit
              have zl := zN_lt' (P := zovt p) (i := 30 * a + b) (j := 900) (by omega) (by omega) hit
              rw [if_neg (by omega), if_pos (by show k < zN 900 _; have e : (900 : Int).toNat = 900 := rfl; rw [e] at zl; omega), ← w3, ze, show (30 * a + b) / 30 = a by omega, show (30 * a + b) % 30 = b by omega] at hk
              exact hk
        have e := zov_row (p := p) (a := a) (b := a) (i := 30 * a) (j := 30 * a + (a + 1)) ⟨a0, by omega⟩ (by omega) (by omega) (by omega) (fun t t0 t1 => Or.inl (by omega))
        have := inner (a + 1) (by omega) (by omega) (by rw [e]; exact hnf)
        rw [e] at this
        exact this
    exact outer 0 (by omega) (by omega) (by show k < 0 ∨ (0 : Int) ≤ k; omega)
  · have hk := hk μ (fun _ _ _ _ => rfl)
    unfold zaO at hk
    rw [if_pos q] at hk
    exact hk
/-- how many OVERLAPS, of a plane laid -/
theorem e12_overlaps (hv : zV p) (hc : zMn' μ p) (hk : ∀ m, (∀ o i, (o < 130 ∨ 132 < o) → (o < 135 ∨ 137 < o) → m o i = μ o i) → zQM m p → K (zoN p) m) : z_ci m_X12_overlaps [(2, 113)] μ (d + 4) K := by
  have sk := zV_sk hv
  have F0 : 0 ≤ pF p ∧ pF p ≤ 30 := sk.1
  have zb := zoN_b (p := p)
  refine V_X12_overlaps (e12_placed hv hc (fun m fm qm => ?_))
  have hk := hk m fm qm
  have e21 : m 113 21 = pF p := by rw [fm 113 21 (by omega) (by omega)]; exact hc.1.1.2.1
  have outer : ∀ a : Int, 0 ≤ a → a ≤ pF p → z_ri m_X12_overlaps 9 [some (2, 113), some (0, zN (30 * a).toNat (zovt p)), some (0, a), none] m (d + 4) K := by
    refine z_up (fun a a0 a1 ih => V_X12_overlaps_9 ?_)
    rw [e21]
    refine ⟨fun q => ?_, fun q => ⟨(by first | omega | exact ⟨by omega, by omega⟩), ?_⟩⟩
    · obtain rfl : a = pF p := by omega
      have e : zN 900 (zovt p) = zN (30 * pF p).toNat (zovt p) := zN_flat (i := 30 * pF p) (j := 900) (by omega) (by omega) (fun t t0 t1 => by
        cases hz : zovt p t with
        | false => rfl
        | true =>
          have := (zovt_F hv (by omega) hz).2.1
          omega)
      unfold zoN at hk
      rw [e] at hk
      exact hk
    · have inner : ∀ b : Int, a + 1 ≤ b → b ≤ pF p → z_ri m_X12_overlaps 21 [some (2, 113), some (0, zN (30 * a + b).toNat (zovt p)), some (0, a), some (0, b)] m (d + 4) K := by
        refine z_up (fun b b0 b1 ih2 => V_X12_overlaps_21 ?_)
        rw [e21]
        refine ⟨fun q1 => ⟨(by first | omega | exact ⟨by omega, by omega⟩), ?_⟩, fun q1 => ?_⟩
        · obtain rfl : b = pF p := by omega
          have e := zov_row (p := p) (a := a) (b := a) (i := 30 * a + pF p) (j := 30 * a + 30) ⟨a0, by omega⟩ (by omega) (by omega) (by omega) (fun t t0 t1 => Or.inr (Or.inr (by
            cases hz : zPl p (t % 30) with
            | false => rfl
            | true =>
              have := (zPl_in hv hz).1
              omega)))
          have := ih q
          rw [show 30 * (a + 1) = 30 * a + 30 by omega, e] at this
          exact this
        · have zr := zN_r (P := zovt p) (30 * a + b).toNat
          have zr2 := zN_mono (P := zovt p) (n := (30 * a + b).toNat) (k := 900) (by omega)
          have nx := ih2 (by omega)
          rw [show 30 * a + (b + 1) = (30 * a + b) + 1 by omega, zN_up (by omega)] at nx
          have z1 := zi_r (zovt p (30 * a + b))
          refine e12_areOver F0.2 qm ⟨a0, by omega⟩ q1 ?_
          cases hit : zovt p (30 * a + b) with
          | false =>
            rw [hit] at nx
            exact e_truth (fun _ => ⟨(by first | omega | exact ⟨by omega, by omega⟩), (by first | omega | exact ⟨by omega, by omega⟩), nx⟩) (fun w => absurd rfl w)
          | true =>
            rw [hit] at nx
            exact e_truth (fun w => absurd w (by decide)) (fun _ => ⟨(by first | omega | exact ⟨by omega, by omega⟩), (by first | omega | exact ⟨by omega, by omega⟩), nx⟩)
      have e := zov_row (p := p) (a := a) (b := a) (i := 30 * a) (j := 30 * a + (a + 1)) ⟨a0, by omega⟩ (by omega) (by omega) (by omega) (fun t t0 t1 => Or.inl (by omega))
      have := inner (a + 1) (by omega) (by omega)
      rw [e] at this
      exact this
  exact outer 0 (by omega) (by omega)
theorem e_free (hv : zV p) (hc : zCn' μ p) (hk : K (zaR p k) μ) : z_ci m_X11_free [(2, 1), (0, k)] μ (d + 4) K := by
  have sk := zV_sk hv
  have F0 : 0 ≤ pF p ∧ pF p ≤ 30 := sk.1
  have G : zGc μ (pF p) (pa p) (pe p) (pq p) := zCK_G hc.1
  unfold zaR at hk
  refine V_X11_free ⟨fun q => ?_, fun q => ?_⟩
  · rw [if_neg (by omega)] at hk
    have key : ∀ e : Int, 0 ≤ e → e ≤ 2 * pF p → (k < 0 ∨ zN e.toNat (zfre p) ≤ k) → z_ri m_X11_free 11 [some (2, 1), some (0, k), some (0, zN e.toNat (zfre p)), some (0, e)] μ (d + 4) K := by
      refine z_up (fun e e0 e1 ih hnf => V_X11_free_11 ?_)
      rw [G.2.1]
      refine ⟨fun q1 => ?_, fun q1 => ?_⟩
      · obtain rfl : e = 2 * pF p := by omega
        refine ⟨fun w => ?_, fun w => ?_⟩
        · rw [if_neg w, if_neg (by omega)] at hk
          exact hk
        · rw [if_pos w] at hk
          exact hk
      · have zr := zN_r (P := zfre p) e.toNat
        have nx := ih q1
        rw [zN_up e0] at nx
        refine e_isFree hv hc ⟨e0, q1⟩ (fun hz => zy1' ?_) (fun hz => zy0' ⟨(by first | omega | exact ⟨by omega, by omega⟩), ?_⟩)
        · rw [hz] at nx
          refine ⟨fun w => ⟨(by first | omega | exact ⟨by omega, by omega⟩), (by first | omega | exact ⟨by omega, by omega⟩), nx (by show k < 0 ∨ _ + 1 ≤ k; omega)⟩, fun w => ?_⟩
          have ze := zel_of (P := zfre p) (m := 2 * pF p) (j := e) ⟨e0, q1⟩ hz
          have zl := zN_lt' (P := zfre p) (i := e) (j := 2 * pF p) e0 q1 hz
          rw [if_neg (by omega), if_pos (by omega), ← w, ze] at hk
          exact hk
        · rw [hz] at nx
          have e : ∀ x : Int, x + zi false = x := fun x => by show x + 0 = x; omega
          rw [e] at nx
          exact nx hnf
    exact key 0 (by omega) (by omega) (by show k < 0 ∨ (0 : Int) ≤ k; omega)
  · rw [if_pos q] at hk
    exact hk
theorem e12_free (hv : zV p) (hc : zMn' μ p) (hk : ∀ m, (∀ o i, (o < 130 ∨ 132 < o) → (o < 135 ∨ 137 < o) → m o i = μ o i) → K (zaR p k) m) : z_ci m_X12_free [(2, 113), (0, k)] μ (d + 8) K := by
  have sk := zV_sk hv
  have F0 : 0 ≤ pF p ∧ pF p ≤ 30 := sk.1
  refine V_X12_free ⟨fun q => e12_placed hv hc (fun m fm qm => ?_), fun q => ?_⟩
  · have hk := hk m fm
    have hc' : zMn' m p := zMn_fr hc hv.1 (fun x i w => fm x i (by omega) (by omega))
    have G : zGm m (pF p) (pa p) (pe p) (pq p) := zMK_G hc'.1
    unfold zaR at hk
    rw [if_neg (by omega)] at hk
    have key : ∀ e : Int, 0 ≤ e → e ≤ 2 * pF p → (k < 0 ∨ zN e.toNat (zfre p) ≤ k) → z_ri m_X12_free 16 [some (2, 113), some (0, k), some (0, zN e.toNat (zfre p)), some (0, e)] m (d + 8) K := by
      refine z_up (fun e e0 e1 ih hnf => V_X12_free_16 ?_)
      rw [G.2.1]
      refine ⟨fun q1 => ?_, fun q1 => ?_⟩
      · obtain rfl : e = 2 * pF p := by omega
        refine ⟨fun w => ?_, fun w => ?_⟩
        · rw [if_neg w, if_neg (by omega)] at hk
          exact hk
        · rw [if_pos w] at hk
          exact hk
      · have zr := zN_r (P := zfre p) e.toNat
        have nx := ih q1
        rw [zN_up e0] at nx
        refine e12_isFree hv hc' qm ⟨e0, q1⟩ (fun hz => zy1 ?_) (fun hz => zy0 ⟨(by first | omega | exact ⟨by omega, by omega⟩), ?_⟩)
        · rw [hz] at nx
          refine ⟨fun w => ⟨(by first | omega | exact ⟨by omega, by omega⟩), (by first | omega | exact ⟨by omega, by omega⟩), nx (by show k < 0 ∨ _ + 1 ≤ k; omega)⟩, fun w => ?_⟩
          have ze := zel_of (P := zfre p) (m := 2 * pF p) (j := e) ⟨e0, q1⟩ hz
          have zl := zN_lt' (P := zfre p) (i := e) (j := 2 * pF p) e0 q1 hz
          rw [if_neg (by omega), if_pos (by omega), ← w, ze] at hk
          exact hk
        · rw [hz] at nx
          have e : ∀ x : Int, x + zi false = x := fun x => by show x + 0 = x; omega
          rw [e] at nx
          exact nx hnf
    exact key 0 (by omega) (by omega) (by show k < 0 ∨ (0 : Int) ≤ k; omega)
  · have hk := hk μ (fun _ _ _ _ => rfl)
    unfold zaR at hk
    rw [if_pos q] at hk
    exact hk
end LP

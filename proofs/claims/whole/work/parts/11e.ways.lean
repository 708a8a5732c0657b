/-! looks: box, part, way -/
theorem zmx_ge {g : Int → Int} : ∀ (n : Nat) (i : Int), 0 ≤ i → i < n → g i ≤ zmx n g := by
  intro n
  induction n with
  | zero => intro i i0 i1; omega
  | succ n ih =>
    intro i i0 i1
    show g i ≤ max (zmx n g) (g n)
    by_cases q : i = n
    · rw [q]
      omega
    · have := ih i i0 (by omega)
      omega
theorem zmx_at {g : Int → Int} : ∀ n : Nat, zmx n g = 0 ∨ ∃ i : Int, 0 ≤ i ∧ i < n ∧ zmx n g = g i := by
  intro n
  induction n with
  | zero => exact Or.inl rfl
  | succ n ih =>
    show max (zmx n g) (g n) = 0 ∨ ∃ i : Int, 0 ≤ i ∧ i < ((n + 1 : Nat) : Int) ∧ max (zmx n g) (g n) = g i
    by_cases q : zmx n g ≤ g n
    · exact Or.inr ⟨n, by omega, by omega, by omega⟩
    · rcases ih with h | ⟨i, i0, i1, i2⟩
      · exact Or.inl (by omega)
      · exact Or.inr ⟨i, i0, by omega, by omega⟩
theorem zmx_eq {g : Int → Int} {n : Nat} {v : Int} (h0 : 0 ≤ v) (h1 : ∀ i : Int, 0 ≤ i → i < n → g i ≤ v) (h2 : v = 0 ∨ ∃ i : Int, 0 ≤ i ∧ i < n ∧ v = g i) : zmx n g = v := by
  have a := zmx_n (g := g) n
  have le : zmx n g ≤ v := by
    rcases zmx_at (g := g) n with h | ⟨i, i0, i1, i2⟩
    · omega
    · have := h1 i i0 i1
      omega
  have ge : v ≤ zmx n g := by
    rcases h2 with h | ⟨i, i0, i1, i2⟩
    · omega
    · have := zmx_ge (g := g) n i i0 i1
      omega
  omega
def zgx (p : zP) (X : Int → Int) (f : Int) : Int := if zPl p f = true then X f else 0
/-- of the box: the greatest, the least -/
def zbg (p : zP) (X : Int → Int) : Int := zmx (pF p).toNat (zgx p X)
def zaB (p : zP) (a : Int) : Int := if (0 ≤ a ∧ a ≤ 3) ∧ ¬ pF p = 0 then (if a = 0 then -zbg p (fun f => -zX p f) else if a = 1 then -zbg p (fun f => -zY p f) else if a = 2 then zbg p (zX p) else zbg p (zY p)) else -1000
section LW
variable {a b c k v r f : Int} {p : zP} {L : List Int} {μ μ0 : z_Mem} {d : Nat} {K : Int → z_Mem → Prop} {Kn : z_Mem → Prop}
theorem zPl_row (hv : zV p) (hc : zCn' μ p) (hF : ¬ pF p = 0) : (∀ j, 0 ≤ j → j < μ 23 6 → zPl p (μ 27 j) = true ∧ 0 ≤ μ 27 j ∧ μ 27 j < pF p) ∧ (∀ f, zPl p f = true → ∃ j, 0 ≤ j ∧ j < μ 23 6 ∧ μ 27 j = f) ∧ 0 < μ 23 6 ∧ μ 23 6 ≤ 30 := by
  have sk := zV_sk hv
  have F0 : 0 ≤ pF p ∧ pF p ≤ 30 := sk.1
  rcases hc.2.2 with ⟨h1, _⟩ | ⟨h1, h2⟩
  · exact absurd h1 hF
  · have tr := zBF_tr (H := pH p) sk h1
    have ln := zTr_le sk h1 tr
    have e : μ 23 6 = ((pB p).length : Int) + 1 := h2.1
    have rw' : zRow (pa p) (pr p) (pB p) (μ 27) := h2.2.2.1
    have ln' : ((pB p).length : Int) + 1 ≤ pF p := ln
    refine ⟨fun j j0 j1 => ?_, fun f hf => ?_, ?_, ?_⟩
    · have e27 : μ 27 j = zfj (pa p) (pr p) (pB p) j := rw' j j0 (by omega)
      have hp : zPl p (μ 27 j) = true := by
        rw [e27, zPl_e (by omega)]
        exact zin_j
      exact ⟨hp, (zPl_in hv hp).1⟩
    · rw [zPl_e (by omega)] at hf
      obtain ⟨j, j0, j1, j2⟩ := zin_ex hf
      refine ⟨j, j0, by omega, ?_⟩
      rw [← j2]
      exact rw' j j0 j1
    · omega
    · omega
theorem e_greatest6 {o : Int} {X : Int → Int} (hv : zV p) (hc : zCn' μ p) (hF : ¬ pF p = 0) (ho : z_kd o = 14 ∧ z_ln o = 30) (hX : ∀ f, zPl p f = true → μ o f = X f) (hk : K (zbg p X) μ) : z_ci m_X6_greatest [(2, 23), (2, o)] μ (d + 1) K := by
  have h23 : z_kd 23 = 6 := by decide +kernel
  obtain ⟨r1, r2, r3, r4⟩ := zPl_row hv hc hF
  have F0 : 0 ≤ pF p ∧ pF p ≤ 30 := (zV_sk hv).1
  have key : ∀ i, 0 ≤ i → i ≤ μ 23 6 → ∀ v, 0 ≤ v → (∀ j, 0 ≤ j → j < i → X (μ 27 j) ≤ v) → (v = 0 ∨ ∃ j, 0 ≤ j ∧ j < i ∧ v = X (μ 27 j)) → z_ri m_X6_greatest 4 [some (2, 23), some (2, o), some (0, v), some (0, i)] μ (d + 1) K := by
    refine z_up (fun i i0 i1 ih v v0 vg va => V_X6_greatest_4 h23 ho ⟨fun q => ?_, fun q => ?_⟩)
    · obtain rfl : i = μ 23 6 := by omega
      have : zbg p X = v := zmx_eq v0 (fun f f0 f1 => by
        unfold zgx
        split
        · rename_i w
          obtain ⟨j, j0, j1, j2⟩ := r2 f w
          rw [← j2]
          exact vg j j0 j1
        · exact v0) (by
        rcases va with h | ⟨j, j0, j1, j2⟩
        · exact Or.inl h
        · obtain ⟨q1, q2, q3⟩ := r1 j j0 j1
          refine Or.inr ⟨μ 27 j, q2, by omega, ?_⟩
          unfold zgx
          rw [if_pos q1]
          exact j2)
      rw [← this]
      exact hk
    · obtain ⟨q1, q2, q3⟩ := r1 i i0 q
      have e27 : μ (23 + 4) i = μ 27 i := rfl
      rw [e27, hX _ q1]
      refine ⟨(by first | omega | exact ⟨by omega, by omega⟩), (by first | omega | exact ⟨by omega, by omega⟩), (by first | omega | exact ⟨by omega, by omega⟩), ih q _ (by omega) (fun j j0 j1 => ?_) ?_⟩
      · by_cases w : j = i
        · rw [w]
          omega
        · have := vg j j0 (by omega)
          omega
      · by_cases w : v ≤ X (μ 27 i)
        · exact Or.inr ⟨i, i0, by omega, by omega⟩
        · rcases va with h | ⟨j, j0, j1, j2⟩
          · exact Or.inl (by omega)
          · exact Or.inr ⟨j, j0, by omega, by omega⟩
  exact V_X6_greatest h23 ho (key 0 (by omega) (by omega) 0 (by omega) (fun j j0 j1 => by omega) (Or.inl rfl))
theorem e_least6 {o : Int} {X : Int → Int} (hv : zV p) (hc : zCn' μ p) (hF : ¬ pF p = 0) (ho : z_kd o = 14 ∧ z_ln o = 30) (hX : ∀ f, zPl p f = true → μ o f = X f) (hk : K (-zbg p (fun f => -X f)) μ) : z_ci m_X6_least [(2, 23), (2, o)] μ (d + 1) K := by
  have h23 : z_kd 23 = 6 := by decide +kernel
  obtain ⟨r1, r2, r3, r4⟩ := zPl_row hv hc hF
  have F0 : 0 ≤ pF p ∧ pF p ≤ 30 := (zV_sk hv).1
  have key : ∀ i, 0 ≤ i → i ≤ μ 23 6 → ∀ v, v ≤ 0 → (∀ j, 0 ≤ j → j < i → v ≤ X (μ 27 j)) → (v = 0 ∨ ∃ j, 0 ≤ j ∧ j < i ∧ v = X (μ 27 j)) → z_ri m_X6_least 4 [some (2, 23), some (2, o), some (0, v), some (0, i)] μ (d + 1) K := by
    refine z_up (fun i i0 i1 ih v v0 vg va => V_X6_least_4 h23 ho ⟨fun q => ?_, fun q => ?_⟩)
    · obtain rfl : i = μ 23 6 := by omega
      have : zbg p (fun f => -X f) = -v := zmx_eq (by omega) (fun f f0 f1 => by
        unfold zgx
        split
        · rename_i w
          obtain ⟨j, j0, j1, j2⟩ := r2 f w
          rw [← j2]
          have := vg j j0 j1
          show -X (μ 27 j) ≤ -v
          omega
        · omega) (by
        rcases va with h | ⟨j, j0, j1, j2⟩
        · exact Or.inl (by omega)
        · obtain ⟨q1, q2, q3⟩ := r1 j j0 j1
          refine Or.inr ⟨μ 27 j, q2, by omega, ?_⟩
          unfold zgx
          rw [if_pos q1]
          show -v = -X (μ 27 j)
          omega)
      rw [this, Int.neg_neg] at hk
      exact hk
    · obtain ⟨q1, q2, q3⟩ := r1 i i0 q
      have e27 : μ (23 + 4) i = μ 27 i := rfl
      rw [e27, hX _ q1]
      refine ⟨(by first | omega | exact ⟨by omega, by omega⟩), (by first | omega | exact ⟨by omega, by omega⟩), (by first | omega | exact ⟨by omega, by omega⟩), ih q _ (by omega) (fun j j0 j1 => ?_) ?_⟩
      · by_cases w : j = i
        · rw [w]
          omega
        · have := vg j j0 (by omega)
          omega
      · by_cases w : X (μ 27 i) ≤ v
        · exact Or.inr ⟨i, i0, by omega, by omega⟩
        · rcases va with h | ⟨j, j0, j1, j2⟩
          · exact Or.inl (by omega)
          · exact Or.inr ⟨j, j0, by omega, by omega⟩
  exact V_X6_least h23 ho (key 0 (by omega) (by omega) 0 (by omega) (fun j j0 j1 => by omega) (Or.inl rfl))
theorem e_box (hv : zV p) (hc : zCn' μ p) (hk : K (zaB p a) μ) : z_ci m_X11_box [(2, 1), (0, a)] μ (d + 8) K := by
  obtain ⟨Q, n6⟩ := zCn_Q hv hc
  have F0 : 0 ≤ pF p ∧ pF p ≤ 30 := (zV_sk hv).1
  have k24 : z_kd 24 = 14 ∧ z_ln 24 = 30 := by constructor <;> decide +kernel
  have k25 : z_kd 25 = 14 ∧ z_ln 25 = 30 := by constructor <;> decide +kernel
  unfold zaB at hk
  refine V_X11_box ⟨fun q => ?_, fun q => ⟨fun q2 => ?_, fun q2 => ⟨fun q3 => ?_, fun q3 => ?_⟩⟩⟩
  · rw [if_neg (fun w => by omega)] at hk
    exact hk
  · rw [if_neg (fun w => by omega)] at hk
    exact hk
  · have hF : ¬ pF p = 0 := fun w => by
      rw [n6, w] at q3
      exact q3 rfl
    rw [if_pos ⟨⟨q, q2⟩, hF⟩] at hk
    refine ⟨fun w => ⟨fun w2 => ?_, fun w2 => ?_⟩, fun w => ⟨fun w2 => ?_, fun w2 => ?_⟩⟩
    · rw [if_neg (by omega), if_neg (by omega), if_neg (by omega)] at hk
      exact e_greatest6 hv hc hF k25 (fun f hf => (Q.2.2 f hf).2.1) hk
    · rw [if_neg (by omega), if_pos (by omega)] at hk
      exact e_least6 hv hc hF k25 (fun f hf => (Q.2.2 f hf).2.1) hk
    · rw [if_neg (by omega), if_neg (by omega), if_pos (by omega)] at hk
      exact e_greatest6 hv hc hF k24 (fun f hf => (Q.2.2 f hf).1) hk
    · rw [if_pos (by omega)] at hk
      exact e_least6 hv hc hF k24 (fun f hf => (Q.2.2 f hf).1) hk
  · have hF : pF p = 0 := by
      by_cases w : pF p = 0
      · exact w
      · have := (zPl_row hv hc w).2.2.1
        omega
    rw [if_neg (fun w => w.2 hF)] at hk
    exact hk
theorem e12_box (hv : zV p) (hc : zMn' μ p) (hk : ∀ m, (∀ o i, (o < 130 ∨ 132 < o) → (o < 135 ∨ 137 < o) → m o i = μ o i) → K (zaB p a) m) : z_ci m_X12_box [(2, 113), (0, a)] μ (d + 8) K := by
  have sk := zV_sk hv
  have F0 : 0 ≤ pF p ∧ pF p ≤ 30 := sk.1
  have hk0 := hk μ (fun _ _ _ _ => rfl)
  unfold zaB at hk hk0
  refine V_X12_box ?_
  rw [(show μ 113 21 = pF p from hc.1.1.2.1)]
  refine ⟨fun q => ?_, fun q => e_in (fun q2 => zy0 ?_) (fun q2 => zy1 (e12_placed hv hc (fun m fm qm => ?_)))⟩
  · rw [if_neg (fun w => w.2 q)] at hk0
    exact hk0
  · rw [if_neg (fun w => q2 w.1)] at hk0
    exact hk0
  · have hk := hk m fm
    rw [if_pos ⟨q2, q⟩] at hk
    have e21 : m 113 21 = pF p := by rw [fm 113 21 (by omega) (by omega)]; exact hc.1.1.2.1
    have st : ∀ (X : Int → Int) (i : Int), 0 ≤ i → zmx (i + 1).toNat (zgx p X) = max (zmx i.toNat (zgx p X)) (if zPl p i = true then X i else 0) := fun X i i0 => by
      rw [show (i + 1).toNat = i.toNat + 1 by omega]
      show max _ (zgx p X ((i.toNat : Nat) : Int)) = _
      rw [show ((i.toNat : Nat) : Int) = i by omega]
      rfl
    have up : ∀ (X : Int → Int), ((a = 2 ∧ X = zX p) ∨ (a = 3 ∧ X = zY p)) → K (zbg p X) m → z_ri m_X12_box 32 [some (2, 113), some (0, a), some (0, 0), some (0, 0), none] m (d + 8) K := by
      intro X hX hk
      have key : ∀ i, 0 ≤ i → i ≤ pF p → z_ri m_X12_box 32 [some (2, 113), some (0, a), some (0, zmx i.toNat (zgx p X)), some (0, i), none] m (d + 8) K := by
        refine z_up (fun i i0 i1 ih => V_X12_box_32 ?_)
        rw [e21]
        refine ⟨fun w => ?_, fun w => ?_⟩
        · obtain rfl : i = pF p := by omega
          exact hk
        · have nx := ih w
          rw [st X i i0] at nx
          have n0 := zmx_n (g := zgx p X) i.toNat
          rw [qm.1 i i0 w]
          cases hz : zPl p i with
          | false =>
            rw [hz] at nx
            rw [if_neg (by decide), show max (zmx i.toNat (zgx p X)) 0 = zmx i.toNat (zgx p X) by omega] at nx
            exact ⟨(by first | omega | exact ⟨by omega, by omega⟩), fun _ => ⟨(by first | omega | exact ⟨by omega, by omega⟩), (by first | omega | exact ⟨by omega, by omega⟩), fun _ => ⟨(by first | omega | exact ⟨by omega, by omega⟩), nx⟩, fun x => absurd rfl x⟩, fun _ => ⟨(by first | omega | exact ⟨by omega, by omega⟩), (by first | omega | exact ⟨by omega, by omega⟩), fun _ => ⟨(by first | omega | exact ⟨by omega, by omega⟩), nx⟩, fun x => absurd rfl x⟩⟩
          | true =>
            rw [hz] at nx
            rw [if_pos rfl] at nx
            obtain ⟨p1, p2, _⟩ := qm.2 i hz
            rw [p1, p2]
            rcases hX with ⟨hX1, hX2⟩ | ⟨hX1, hX2⟩
            · rw [hX2] at nx ⊢
              exact ⟨(by first | omega | exact ⟨by omega, by omega⟩), fun x => by omega, fun _ => ⟨(by first | omega | exact ⟨by omega, by omega⟩), (by first | omega | exact ⟨by omega, by omega⟩), fun x => absurd x (by decide), fun _ => ⟨fun _ => ⟨(by first | omega | exact ⟨by omega, by omega⟩), nx⟩, fun x => by omega⟩⟩⟩
            · rw [hX2] at nx ⊢
              exact ⟨(by first | omega | exact ⟨by omega, by omega⟩), fun _ => ⟨(by first | omega | exact ⟨by omega, by omega⟩), (by first | omega | exact ⟨by omega, by omega⟩), fun x => absurd x (by decide), fun _ => ⟨fun _ => ⟨(by first | omega | exact ⟨by omega, by omega⟩), nx⟩, fun x => by omega⟩⟩, fun x => by omega⟩
      exact key 0 (by omega) (by omega)
    have dn : ∀ (X : Int → Int), ((a = 0 ∧ X = zX p) ∨ (a = 1 ∧ X = zY p)) → K (-zbg p (fun f => -X f)) m → z_ri m_X12_box 32 [some (2, 113), some (0, a), some (0, 0), some (0, 0), none] m (d + 8) K := by
      intro X hX hk
      have key : ∀ i, 0 ≤ i → i ≤ pF p → z_ri m_X12_box 32 [some (2, 113), some (0, a), some (0, -zmx i.toNat (zgx p (fun f => -X f))), some (0, i), none] m (d + 8) K := by
        refine z_up (fun i i0 i1 ih => V_X12_box_32 ?_)
        rw [e21]
        refine ⟨fun w => ?_, fun w => ?_⟩
        · obtain rfl : i = pF p := by omega
          exact hk
        · have nx := ih w
          rw [st (fun f => -X f) i i0] at nx
          have n0 := zmx_n (g := zgx p (fun f => -X f)) i.toNat
          rw [qm.1 i i0 w]
          cases hz : zPl p i with
          | false =>
            rw [hz] at nx
            rw [if_neg (by decide), show max (zmx i.toNat (zgx p (fun f => -X f))) 0 = zmx i.toNat (zgx p (fun f => -X f)) by omega] at nx
            exact ⟨(by first | omega | exact ⟨by omega, by omega⟩), fun _ => ⟨(by first | omega | exact ⟨by omega, by omega⟩), (by first | omega | exact ⟨by omega, by omega⟩), fun _ => ⟨(by first | omega | exact ⟨by omega, by omega⟩), nx⟩, fun x => absurd rfl x⟩, fun _ => ⟨(by first | omega | exact ⟨by omega, by omega⟩), (by first | omega | exact ⟨by omega, by omega⟩), fun _ => ⟨(by first | omega | exact ⟨by omega, by omega⟩), nx⟩, fun x => absurd rfl x⟩⟩
          | true =>
            rw [hz] at nx
            rw [if_pos rfl, show -max (zmx i.toNat (zgx p (fun f => -X f))) (-X i) = min (-zmx i.toNat (zgx p (fun f => -X f))) (X i) by omega] at nx
            obtain ⟨p1, p2, _⟩ := qm.2 i hz
            rw [p1, p2]
            rcases hX with ⟨hX1, hX2⟩ | ⟨hX1, hX2⟩
            · rw [hX2] at nx ⊢
              exact ⟨(by first | omega | exact ⟨by omega, by omega⟩), fun x => by omega, fun _ => ⟨(by first | omega | exact ⟨by omega, by omega⟩), (by first | omega | exact ⟨by omega, by omega⟩), fun x => absurd x (by decide), fun _ => ⟨fun x => by omega, fun _ => ⟨(by first | omega | exact ⟨by omega, by omega⟩), nx⟩⟩⟩⟩
            · rw [hX2] at nx ⊢
              exact ⟨(by first | omega | exact ⟨by omega, by omega⟩), fun _ => ⟨(by first | omega | exact ⟨by omega, by omega⟩), (by first | omega | exact ⟨by omega, by omega⟩), fun x => absurd x (by decide), fun _ => ⟨fun x => by omega, fun _ => ⟨(by first | omega | exact ⟨by omega, by omega⟩), nx⟩⟩⟩, fun x => by omega⟩
      have := key 0 (by omega) (by omega)
      have z : -zmx (0 : Int).toNat (zgx p (fun f => -X f)) = 0 := rfl
      rw [z] at this
      exact this
    rcases (by omega : a = 0 ∨ a = 1 ∨ a = 2 ∨ a = 3) with w | w | w | w
    · rw [if_pos w] at hk
      exact dn _ (Or.inl ⟨w, rfl⟩) hk
    · rw [if_neg (by omega), if_pos w] at hk
      exact dn _ (Or.inr ⟨w, rfl⟩) hk
    · rw [if_neg (by omega), if_neg (by omega), if_pos w] at hk
      exact up _ (Or.inl ⟨w, rfl⟩) hk
    · rw [if_neg (by omega), if_neg (by omega), if_neg (by omega)] at hk
      exact up _ (Or.inr ⟨w, rfl⟩) hk
/-! part -/
theorem zbt_xa {v w b : Int} : zbt ((((v : Int).toNat ^^^ ((v : Int).toNat &&& (w : Int).toNat) : Nat)) : Int) b = (zbt v b && !zbt w b) := by
  unfold zbt
  have e2 : ∀ x : Nat, ((x : Nat) : Int).toNat = x := fun x => by omega
  rw [e2, Nat.testBit_xor, Nat.testBit_and]
  cases v.toNat.testBit b.toNat <;> cases w.toNat.testBit b.toNat <;> rfl
theorem e_part (hv : zV p) (hc : zCn' μ p) (h1 : ¬ (0 ≤ a ∧ a < 2 * pF p) → K (-1) μ) (h2 : 0 ≤ a ∧ a < 2 * pF p → pH p a = false → K (-2) μ) (h3 : 0 ≤ a ∧ a < 2 * pF p → pH p a = true → ∀ m v, (∀ o i, o ≠ 17 → o ≠ 18 → m o i = μ o i) → 0 ≤ v → (∀ f, 0 ≤ f → zbt v f = (zPl p f && !zPl (psH p (zof (pH p) a)) f)) → K v m) : z_ci m_X11_part [(2, 1), (0, a)] μ (d + 8) K := by
  have sk := zV_sk hv
  have F0 : 0 ≤ pF p ∧ pF p ≤ 30 := sk.1
  have G : zGc μ (pF p) (pa p) (pe p) (pq p) := zCK_G hc.1
  obtain ⟨Q, n6⟩ := zCn_Q hv hc
  refine V_X11_part (e_isEdge (fun q => ?_) (fun q => ?_))
  · rw [G.2.1] at q
    exact zy0 (h1 q)
  · rw [G.2.1] at q
    refine zy1 (e_isHinge zkd21 hc.2.1.1 (by omega) (fun hz => zy1 ?_) (fun hz => zy0 (h2 q hz)))
    have hr : 0 ≤ pr p ∧ pr p < pF p := by
      have := hv.2.2.2.2.2.1
      omega
    rw [hc.2.1.2.1]
    have hb := zHb_of (a := a) hc.2.1.1 (by omega)
    refine ⟨(by first | omega | exact ⟨by omega, by omega⟩), ⟨hc.2.1.1.1.1, by rw [zpw']; exact Int.natCast_nonneg _⟩, ?_⟩
    refine e_reach sk G hb hr (fun m v hm => ?_)
    refine ⟨⟨Q.1.1, hm.2.2.2.1.1⟩, h3 q hz m _ hm.1 (Int.natCast_nonneg _) (fun f f0 => ?_)⟩
    rw [zbt_xa, Q.2.1 f f0, hm.2.2.2.2 f f0]
    have e : zPl (psH p (zof (pH p) a)) f = zin (pa p) (pr p) (zBF (pa p) (pe p) (zof (pH p) a) (pr p)) f := zPl_e (p := psH p (zof (pH p) a)) (by show 0 < pF p; omega)
    rw [e]
theorem zor0 {v : Int} (hv : 0 ≤ v) : ((((v : Int).toNat ||| (0 : Int).toNat : Nat)) : Int) = v := by
  rw [show (0 : Int).toNat = 0 from rfl, Nat.or_zero]
  omega
theorem zan0 {v : Int} (hv : 0 ≤ v) : ((((v : Int).toNat ^^^ ((v : Int).toNat &&& (0 : Int).toNat) : Nat)) : Int) = v := by
  rw [show (0 : Int).toNat = 0 from rfl, Nat.and_zero, Nat.xor_zero]
  omega
theorem e12_partO (hv : zV p) (hc : zMn' μ p) (h1 : ¬ (0 ≤ a ∧ a < 2 * pF p) → K (-1) μ) (h2 : 0 ≤ a ∧ a < 2 * pF p → pH p a = false → K (-2) μ) (h3 : 0 ≤ a ∧ a < 2 * pF p → pH p a = true → ∀ m v, (∀ o i, o ≠ 114 → (o < 130 ∨ 132 < o) → m o i = μ o i) → zMn' m p → 0 ≤ v → (∀ f, 0 ≤ f → zbt v f = (zPl p f && !zPl (psH p (zof (pH p) a)) f)) → K v m) : z_ci m_X12_part [(2, 113), (0, a)] μ (d + 8) K := by
  have sk := zV_sk hv
  have F0 : 0 ≤ pF p ∧ pF p ≤ 30 := sk.1
  have G : zGm μ (pF p) (pa p) (pe p) (pq p) := zMK_G hc.1
  have z30 := zlt30
  refine V_X12_part (e12_isEdge ⟨by rw [G.2.1]; omega, by rw [G.2.1]; omega⟩ (fun q => ?_) (fun q => ?_))
  · rw [G.2.1] at q
    exact zy0 (h1 q)
  · rw [G.2.1] at q
    refine zy1 (e12_isHinge (zRwM_H hc.2) (by omega) (fun hz => zy1 ?_) (fun hz => zy0 (h2 q hz)))
    have hr : 0 ≤ pr p ∧ pr p < pF p := by
      have := hv.2.2.2.2.2.1
      omega
    have hF : 0 < pF p := by omega
    rw [zRwM_r hc.2]
    refine e12_joins sk G (zRwM_H hc.2) hr (fun m2 hm2 => ?_)
    have r2 : zRwM m2 114 0 p := zRwM_fr hc.2 hv.1 (fun i _ _ => hm2.1 114 i (by decide) (by decide) (by decide))
    have one : ∀ j, 0 ≤ j → j ≤ pF p → ∀ v, 0 ≤ v → v < ((2 ^ 30 : Nat) : Int) → (∀ f, 0 ≤ f → zbt v f = (zPl p f && decide (f < j))) → z_ri m_X12_part 37 [some (2, 113), some (0, a), some (0, v), some (0, j)] m2 (d + 8) K := by
      refine z_up (fun j j0 j1 ih v v0 v1 vb => V_X12_part_37 ?_)
      rw [hm2.1 113 21 (by decide) (by decide) (by decide), G.1]
      refine ⟨fun q1 => ?_, fun q1 => ?_⟩
      · obtain rfl : j = pF p := by omega
        have vP : ∀ f, 0 ≤ f → zbt v f = zPl p f := fun f f0 => by
          rw [vb f f0]
          by_cases w : f < pF p
          · rw [decide_eq_true w]
            simp
          · rw [decide_eq_false w]
            cases hz : zPl p f with
            | false => rfl
            | true =>
              have := (zPl_in hv hz).1
              omega
        have r3 := zRwM_set (H := zof (pH p) a) (x := 0) r2 hv.1 (by omega : 0 ≤ a ∧ a < 60) (by rw [zof_e]; rfl) (fun e he => zof_ne he)
        have e22 : z_st m2 114 (23 + a) 0 114 22 = pr p := zRwM_r (p := psH p (zof (pH p) a)) r3
        rw [e22]
        have fr3 : ∀ o i, o ≠ 114 → (o < 130 ∨ 132 < o) → z_st m2 114 (23 + a) 0 o i = μ o i := fun o i c1 c2 => by
          rw [z_st_ne c1]
          exact hm2.1 o i (by omega) (by omega) (by omega)
        have G3 : zGm (z_st m2 114 (23 + a) 0) (pF p) (pa p) (pe p) (pq p) := zGm_fr G (fun o i w => fr3 o i (by omega) (by omega))
        refine ⟨(by first | omega | exact ⟨by omega, by omega⟩), (by first | omega | exact ⟨by omega, by omega⟩), e12_joins (H := zof (pH p) a) sk G3 (zRwM_H (p := psH p (zof (pH p) a)) r3) hr (fun m4 hm4 => ⟨(by first | omega | exact ⟨by omega, by omega⟩), (by first | omega | exact ⟨by omega, by omega⟩), ?_⟩)⟩
        have r4 : zRwM m4 114 0 (psH p (zof (pH p) a)) := zRwM_fr r3 hv.1 (fun i _ _ => hm4.1 114 i (by decide) (by decide) (by decide))
        have r5 := zRwM_set (p := psH p (zof (pH p) a)) (H := pH p) (x := 1) r4 hv.1 (by omega : 0 ≤ a ∧ a < 60) (by rw [hz]; rfl) (fun e he => (zof_ne he).symm)
        have fr5 : ∀ o i, o ≠ 114 → (o < 130 ∨ 132 < o) → z_st m4 114 (23 + a) 1 o i = μ o i := fun o i c1 c2 => by
          rw [z_st_ne c1, hm4.1 o i (by omega) (by omega) (by omega)]
          exact fr3 o i c1 c2
        have C5 : zMn' (z_st m4 114 (23 + a) 1) p := ⟨zMK_H (p := p) (H := pH p) hv.1 hv.2.1 hc.1 (fun o i w => fr5 o i (by omega) (by omega)) r5, r5⟩
        have two : ∀ j, 0 ≤ j → j ≤ pF p → ∀ w, 0 ≤ w → (∀ f, 0 ≤ f → zbt w f = (zPl p f && (decide (j ≤ f) || !zPl (psH p (zof (pH p) a)) f))) → z_ri m_X12_part 104 [some (2, 113), none, some (0, w), some (0, j)] (z_st m4 114 (23 + a) 1) (d + 8) K := by
          refine z_up (fun j j0 j1 ih2 w w0 wb => V_X12_part_104 ?_)
          rw [fr5 113 21 (by decide) (by omega), G.1]
          have e130 : j < pF p → z_st m4 114 (23 + a) 1 130 j = zi (zPl (psH p (zof (pH p) a)) j) := fun hj => by
            rw [z_st_ne (by decide), hm4.2.2.2 j j0 hj]
            have e : zPl (psH p (zof (pH p) a)) j = zin (pa p) (pr p) (zBF (pa p) (pe p) (zof (pH p) a) (pr p)) j := zPl_e (p := psH p (zof (pH p) a)) hF
            rw [e]
          refine ⟨fun q2 => ?_, fun q2 => ?_⟩
          · obtain rfl : j = pF p := by omega
            refine h3 q hz _ w fr5 C5 w0 (fun f f0 => ?_)
            rw [wb f f0]
            by_cases x : pF p ≤ f
            · have np : zPl p f = false := by
                cases hz : zPl p f with
                | false => rfl
                | true =>
                  have := (zPl_in hv hz).1
                  omega
              rw [np]
              rfl
            · rw [decide_eq_false x]
              rfl
          · rw [e130 q2]
            cases hz2 : zPl (psH p (zof (pH p) a)) j with
            | false =>
              refine ⟨(by first | omega | exact ⟨by omega, by omega⟩), fun _ => ⟨(by first | omega | exact ⟨by omega, by omega⟩), (by first | omega | exact ⟨by omega, by omega⟩), ?_⟩, fun x => absurd rfl x⟩
              rw [zan0 w0]
              refine ih2 q2 w w0 (fun f f0 => ?_)
              rw [wb f f0]
              by_cases x : f = j
              · rw [x, hz2, decide_eq_true (by omega)]
                simp
              · by_cases y : j ≤ f
                · rw [decide_eq_true y, decide_eq_true (by omega)]
                · rw [decide_eq_false y, decide_eq_false (by omega)]
            | true =>
              refine ⟨(by first | omega | exact ⟨by omega, by omega⟩), fun x => absurd x (by decide), fun _ => ⟨(by first | omega | exact ⟨by omega, by omega⟩), ⟨w0, by rw [zpw']; exact Int.natCast_nonneg _⟩, (by first | omega | exact ⟨by omega, by omega⟩), ?_⟩⟩
              refine ih2 q2 _ (Int.natCast_nonneg _) (fun f f0 => ?_)
              have eb := zbt_an (v := w) (a := j) (b := f) j0 f0
              unfold zan at eb
              rw [eb, wb f f0]
              by_cases x : f = j
              · have d1 : decide (j + 1 ≤ j) = false := decide_eq_false (by omega)
                rw [x, hz2, decide_eq_true (rfl : j = j), d1]
                simp
              · rw [decide_eq_false x]
                by_cases y : j ≤ f
                · rw [decide_eq_true y, decide_eq_true (by omega)]
                  simp
                · rw [decide_eq_false y, decide_eq_false (by omega)]
                  simp
        refine two 0 (by omega) (by omega) v v0 (fun f f0 => ?_)
        rw [vP f f0, decide_eq_true f0]
        simp
      · have e130 : m2 130 j = zi (zPl p j) := by
          rw [hm2.2.2.2 j j0 q1, zPl_e hF]
        rw [e130]
        cases hz2 : zPl p j with
        | false =>
          refine ⟨(by first | omega | exact ⟨by omega, by omega⟩), fun _ => ⟨(by first | omega | exact ⟨by omega, by omega⟩), (by first | omega | exact ⟨by omega, by omega⟩), ?_⟩, fun x => absurd rfl x⟩
          rw [zor0 v0]
          refine ih q1 v v0 v1 (fun f f0 => ?_)
          rw [vb f f0]
          by_cases x : f = j
          · rw [x, hz2]
            simp
          · by_cases y : f < j
            · rw [decide_eq_true y, decide_eq_true (by omega)]
            · rw [decide_eq_false y, decide_eq_false (by omega)]
        | true =>
          refine ⟨(by first | omega | exact ⟨by omega, by omega⟩), fun x => absurd x (by decide), fun _ => ⟨(by first | omega | exact ⟨by omega, by omega⟩), ⟨v0, by rw [zpw']; exact Int.natCast_nonneg _⟩, (by first | omega | exact ⟨by omega, by omega⟩), ?_⟩⟩
          refine ih q1 _ (Int.natCast_nonneg _) (zor_lt v1 (by omega)) (fun f f0 => ?_)
          have eb := zbt_or (v := v) (a := j) (b := f) j0 f0
          unfold zor at eb
          rw [eb, vb f f0]
          by_cases x : f = j
          · have d1 : decide (j < j + 1) = true := decide_eq_true (by omega)
            rw [x, hz2, decide_eq_true (rfl : j = j), d1]
            simp
          · rw [decide_eq_false x]
            by_cases y : f < j
            · rw [decide_eq_true y, decide_eq_true (by omega)]
              simp
            · rw [decide_eq_false y, decide_eq_false (by omega)]
              simp
    refine one 0 (by omega) (by omega) 0 (by decide) (by decide) (fun f f0 => ?_)
    rw [zbt_0, decide_eq_false (by omega)]
    simp
end LW

/-! THE OUTLINE: the cells of one of the eight ways -/
def ztX (p : zP) (a f : Int) : Int := (if a ≤ 3 then zX p f else -zX p f) * zsx (a % 4) - zY p f * zsy (a % 4)
def ztY (p : zP) (a f : Int) : Int := (if a ≤ 3 then zX p f else -zX p f) * zsy (a % 4) + zY p f * zsx (a % 4)
def zmi (c : Int) : Nat → (Int → Int) → Int
  | 0, _ => c
  | n + 1, g => min (zmi c n g) (g n)
def zcl (p : zP) (a f : Int) : Int := 64 * (ztY p a f - zmi 30 (pF p).toNat (ztY p a)) + ztX p a f - zmi 30 (pF p).toNat (ztX p a)
section CE
variable {a f x y : Int} {n k : Nat} {p : zP} {A B : Int → Int} {g : Int → Int} {μ μ0 : z_Mem} {d : Nat} {K : Int → z_Mem → Prop} {Kn : z_Mem → Prop}
theorem zdn_ag : ∀ (k : Nat) (A B : Int → Int), k < n → (∀ j : Int, 0 ≤ j → j < n → A j = B j) → ∀ j : Int, 0 ≤ j → j < n → zdn k A j = zdn k B j
  | 0, _, _, _, h, j, j0, j1 => h j j0 j1
  | k + 1, A, B, hk, h, j, j0, j1 => by
    show (if A k ≤ A (k + 1) then A else zdn k (zsB A k)) j = (if B k ≤ B (k + 1) then B else zdn k (zsB B k)) j
    rw [h k (by omega) (by omega), h (k + 1) (by omega) (by omega)]
    split
    · exact h j j0 j1
    · refine zdn_ag k _ _ (by omega) (fun i i0 i1 => ?_) j j0 j1
      unfold zsB
      rw [h k (by omega) (by omega), h (k + 1) (by omega) (by omega), h i i0 i1]
theorem zsr_ag : ∀ (i : Nat), i ≤ n → (∀ j : Int, 0 ≤ j → j < n → A j = B j) → ∀ j : Int, 0 ≤ j → j < n → zsr i A j = zsr i B j
  | 0, _, h, j, j0, j1 => h j j0 j1
  | i + 1, hi, h, j, j0, j1 => zdn_ag i _ _ (by omega) (zsr_ag i (by omega) h) j j0 j1
theorem zmi_r (c : Int) (hc : 30 ≤ c ∧ c ≤ 1000) : ∀ n : Nat, (∀ i : Int, 0 ≤ i → i < n → -29 ≤ g i ∧ g i ≤ 29) → -29 ≤ zmi c n g ∧ zmi c n g ≤ c
  | 0, _ => ⟨by show -29 ≤ c; omega, by show c ≤ c; omega⟩
  | n + 1, h => by
    have := zmi_r c hc n (fun i i0 i1 => h i i0 (by omega))
    have := h n (by omega) (by omega)
    show -29 ≤ min (zmi c n g) (g n) ∧ min (zmi c n g) (g n) ≤ c
    omega
theorem zmi_30 : ∀ n : Nat, (∀ i : Int, 0 ≤ i → i < n → g i ≤ 29) → 1 ≤ n → zmi 1000 n g = zmi 30 n g
  | 0, _, h => by omega
  | 1, h, _ => by
    have := h 0 (by omega) (by omega)
    show min 1000 (g 0) = min 30 (g 0)
    omega
  | n + 2, h, _ => by
    have := zmi_30 (n + 1) (fun i i0 i1 => h i i0 (by omega)) (by omega)
    show min (zmi 1000 (n + 1) g) (g (n + 1 : Nat)) = min (zmi 30 (n + 1) g) (g (n + 1 : Nat))
    rw [this]
theorem zt_v (ha : 0 ≤ a) : (a % 4 = 0 → ztX p a f = (if a ≤ 3 then zX p f else -zX p f) ∧ ztY p a f = zY p f) ∧ (a % 4 = 1 → ztX p a f = -zY p f ∧ ztY p a f = (if a ≤ 3 then zX p f else -zX p f)) ∧ (a % 4 = 2 → ztX p a f = -(if a ≤ 3 then zX p f else -zX p f) ∧ ztY p a f = -zY p f) ∧ (a % 4 = 3 → ztX p a f = zY p f ∧ ztY p a f = -(if a ≤ 3 then zX p f else -zX p f)) := by
  unfold ztX ztY
  generalize (if a ≤ 3 then zX p f else -zX p f) = u
  refine ⟨fun w => ?_, fun w => ?_, fun w => ?_, fun w => ?_⟩ <;> rw [w]
  · show u * 1 - zY p f * 0 = u ∧ u * 0 + zY p f * 1 = zY p f
    omega
  · show u * 0 - zY p f * 1 = -zY p f ∧ u * 1 + zY p f * 0 = u
    omega
  · show u * (-1) - zY p f * 0 = -u ∧ u * 0 + zY p f * (-1) = -zY p f
    omega
  · show u * 0 - zY p f * (-1) = zY p f ∧ u * (-1) + zY p f * 0 = -u
    omega
theorem zt_r (hv : zV p) (hw : zWo p) (ha : 0 ≤ a) (hf : 0 ≤ f ∧ f < pF p) : (-29 ≤ ztX p a f ∧ ztX p a f ≤ 29) ∧ -29 ≤ ztY p a f ∧ ztY p a f ≤ 29 := by
  obtain ⟨b1, b2, _⟩ := zpo_b hv (zPl_w hw hv hf)
  obtain ⟨q0, q1, q2, q3⟩ := zt_v (p := p) (f := f) ha
  rcases (by omega : a % 4 = 0 ∨ a % 4 = 1 ∨ a % 4 = 2 ∨ a % 4 = 3) with w | w | w | w
  · have := q0 w
    split at this <;> omega
  · have := q1 w
    split at this <;> omega
  · have := q2 w
    split at this <;> omega
  · have := q3 w
    split at this <;> omega
theorem e12_turned (ha : 0 ≤ a) (hx : (-29 ≤ zX p f ∧ zX p f ≤ 29) ∧ -29 ≤ zY p f ∧ zY p f ≤ 29) : (K (ztX p a f) μ → z_ci m_X12_turnedX [(0, zX p f), (0, zY p f), (0, a)] μ d K) ∧ (K (ztY p a f) μ → z_ci m_X12_turnedY [(0, zX p f), (0, zY p f), (0, a)] μ d K) := by
  obtain ⟨q0, q1, q2, q3⟩ := zt_v (p := p) (f := f) ha
  constructor <;> intro hk
  · refine V_X12_turnedX ⟨fun l => ⟨ha, fun n0 => ⟨ha, fun n1 => ⟨ha, fun n2 => ?_, fun w => ⟨(by first | omega | exact ⟨by omega, by omega⟩), ?_⟩⟩, fun w => ⟨(by first | omega | exact ⟨by omega, by omega⟩), ?_⟩⟩, fun w => ?_⟩, fun l => ⟨(by first | omega | exact ⟨by omega, by omega⟩), ha, fun n0 => ⟨ha, fun n1 => ⟨ha, fun n2 => ?_, fun w => ⟨(by first | omega | exact ⟨by omega, by omega⟩), ?_⟩⟩, fun w => ⟨(by first | omega | exact ⟨by omega, by omega⟩), ?_⟩⟩, fun w => ?_⟩⟩
    · rw [(q3 (by omega)).1] at hk; exact hk
    · rw [(q2 w).1, if_pos l] at hk; exact hk
    · rw [(q1 w).1] at hk; exact hk
    · rw [(q0 w).1, if_pos l] at hk; exact hk
    · rw [(q3 (by omega)).1] at hk; exact hk
    · rw [(q2 w).1, if_neg (by omega)] at hk; exact hk
    · rw [(q1 w).1] at hk; exact hk
    · rw [(q0 w).1, if_neg (by omega)] at hk; exact hk
  · refine V_X12_turnedY ⟨fun l => ⟨ha, fun n0 => ⟨ha, fun n1 => ⟨ha, fun n2 => ⟨(by first | omega | exact ⟨by omega, by omega⟩), ?_⟩, fun w => ⟨(by first | omega | exact ⟨by omega, by omega⟩), ?_⟩⟩, fun w => ?_⟩, fun w => ?_⟩, fun l => ⟨(by first | omega | exact ⟨by omega, by omega⟩), ha, fun n0 => ⟨ha, fun n1 => ⟨ha, fun n2 => ⟨(by first | omega | exact ⟨by omega, by omega⟩), ?_⟩, fun w => ⟨(by first | omega | exact ⟨by omega, by omega⟩), ?_⟩⟩, fun w => ?_⟩, fun w => ?_⟩⟩
    · rw [(q3 (by omega)).2, if_pos l] at hk; exact hk
    · rw [(q2 w).2] at hk; exact hk
    · rw [(q1 w).2, if_pos l] at hk; exact hk
    · rw [(q0 w).2] at hk; exact hk
    · rw [(q3 (by omega)).2, if_neg (by omega)] at hk; exact hk
    · rw [(q2 w).2] at hk; exact hk
    · rw [(q1 w).2, if_neg (by omega)] at hk; exact hk
    · rw [(q0 w).2] at hk; exact hk
theorem e12_laysCells (hv : zV p) (hw : zWo p) (ha : 0 ≤ a) (e21 : μ 113 21 = pF p) (hq : zQM μ p) (hk : ∀ m, (∀ o i, o ≠ 145 → m o i = μ o i) → (∀ j, 0 ≤ j → j < pF p → m 145 j = zsr (pF p).toNat (zcl p a) j) → Kn m) : z_cn m_X12_laysCells [(2, 113), (0, a)] μ (d + 1) Kn := by
  have F0 : 0 ≤ pF p ∧ pF p ≤ 30 := (zV_sk hv).1
  have F1 := hw.1
  refine V_X12_laysCells ?_
  have eX := zmi_30 (g := ztX p a) (pF p).toNat (fun i i0 i1 => (zt_r hv hw ha ⟨i0, by omega⟩).1.2) (by omega)
  have eY := zmi_30 (g := ztY p a) (pF p).toNat (fun i i0 i1 => (zt_r hv hw ha ⟨i0, by omega⟩).2.2) (by omega)
  have rX := zmi_r (g := ztX p a) 1000 (by omega) (pF p).toNat (fun i i0 i1 => (zt_r hv hw ha ⟨i0, by omega⟩).1)
  have rY := zmi_r (g := ztY p a) 1000 (by omega) (pF p).toNat (fun i i0 i1 => (zt_r hv hw ha ⟨i0, by omega⟩).2)
  have two : ∀ f, 0 ≤ f → f ≤ pF p → ∀ m : z_Mem, (∀ o i, o ≠ 145 → m o i = μ o i) → (∀ j, 0 ≤ j → j < f → m 145 j = zcl p a j) → z_rn m_X12_laysCells 75 [some (2, 113), some (0, a), some (0, zmi 1000 (pF p).toNat (ztX p a)), some (0, zmi 1000 (pF p).toNat (ztY p a)), some (0, f)] m (d + 1) Kn := by
    refine z_up (fun f f0 f1 ih m hf hm => V_X12_laysCells_75 ?_)
    rw [hf 113 21 (by decide), e21]
    refine ⟨fun q => ?_, fun q => ?_⟩
    · obtain rfl : f = pF p := by omega
      have e12s := e12_sorts (n := (pF p).toNat) (μ := m) (d := d) (Kn := Kn) (by omega) (fun m2 f2 h2 => hk m2 (fun o i ho => by rw [f2 o i ho]; exact hf o i ho) (fun j j0 j1 => by
        rw [h2]
        exact zsr_ag (n := (pF p).toNat) _ (Nat.le_refl _) (fun i i0 i1 => hm i i0 (by omega)) j j0 (by omega)))
      rw [show (((pF p).toNat : Nat) : Int) = pF p by omega] at e12s
      exact e12s
    · have pl := zPl_w hw hv ⟨f0, q⟩
      obtain ⟨b1, b2, _⟩ := zpo_b hv pl
      obtain ⟨p1, p2, _⟩ := hq.2 f pl
      have tr := zt_r hv hw ha ⟨f0, q⟩
      rw [hf 135 f (by decide), hf 136 f (by decide), p1, p2]
      refine ⟨(by first | omega | exact ⟨by omega, by omega⟩), (by first | omega | exact ⟨by omega, by omega⟩), (e12_turned ha ⟨b1, b2⟩).2 ⟨(by first | omega | exact ⟨by omega, by omega⟩), (by first | omega | exact ⟨by omega, by omega⟩), (by first | omega | exact ⟨by omega, by omega⟩), (by first | omega | exact ⟨by omega, by omega⟩), ?_⟩⟩
      rw [hf 135 f (by decide), hf 136 f (by decide), p1, p2]
      refine (e12_turned ha ⟨b1, b2⟩).1 ⟨(by first | omega | exact ⟨by omega, by omega⟩), (by first | omega | exact ⟨by omega, by omega⟩), (by first | omega | exact ⟨by omega, by omega⟩), (by first | omega | exact ⟨by omega, by omega⟩), ?_⟩
      refine ih q _ (fun o i ho => by rw [z_st_ne ho]; exact hf o i ho) (fun j j0 j1 => ?_)
      by_cases w : j = f
      · rw [w, z_st_eq, eX, eY]
        rfl
      · rw [z_st_ni w]
        exact hm j j0 (by omega)
  have one : ∀ f, 0 ≤ f → f ≤ pF p → z_rn m_X12_laysCells 11 [some (2, 113), some (0, a), some (0, zmi 1000 f.toNat (ztX p a)), some (0, zmi 1000 f.toNat (ztY p a)), some (0, f)] μ (d + 1) Kn := by
    refine z_up (fun f f0 f1 ih => V_X12_laysCells_11 ?_)
    rw [e21]
    refine ⟨fun q => ?_, fun q => ?_⟩
    · obtain rfl : f = pF p := by omega
      exact two 0 (by omega) (by omega) μ (fun _ _ _ => rfl) (fun j j0 j1 => by omega)
    · have pl := zPl_w hw hv ⟨f0, q⟩
      obtain ⟨b1, b2, _⟩ := zpo_b hv pl
      obtain ⟨p1, p2, _⟩ := hq.2 f pl
      rw [p1, p2]
      refine ⟨(by first | omega | exact ⟨by omega, by omega⟩), (by first | omega | exact ⟨by omega, by omega⟩), (e12_turned ha ⟨b1, b2⟩).1 ⟨(by first | omega | exact ⟨by omega, by omega⟩), (by first | omega | exact ⟨by omega, by omega⟩), ?_⟩⟩
      rw [p1, p2]
      refine (e12_turned ha ⟨b1, b2⟩).2 ⟨(by first | omega | exact ⟨by omega, by omega⟩), ?_⟩
      have nx := ih q
      rw [show (f + 1).toNat = f.toNat + 1 by omega] at nx
      have e1 : ∀ g : Int → Int, zmi 1000 (f.toNat + 1) g = min (zmi 1000 f.toNat g) (g f) := fun g => by
        show min (zmi 1000 f.toNat g) (g (f.toNat : Nat)) = _
        rw [show ((f.toNat : Nat) : Int) = f by omega]
      rw [e1, e1] at nx
      exact nx
  exact one 0 (by omega) (by omega)
end CE

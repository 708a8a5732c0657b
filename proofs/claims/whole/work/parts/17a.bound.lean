/-! AT MOST SO MANY GLUINGS: a bound by rows that bear the sums -/
def zaZ (N : Int) (A : Int → Int) (k : Int) : Int := A (k % N)
/-- vertices up to i that are one point, their ANGLES s together (vertex 0 comes last) -/
def zMs (N : Int) (A w : Int → Int) (i s : Int) : Prop := ∃ M : Int → Bool, (∀ v, M v = true → (0 ≤ v ∧ v < N) ∧ (i < N → 1 ≤ v ∧ v ≤ i)) ∧ s = zS N.toNat (fun v => if M v = true then A v else 0) ∧ (∀ v v', M v = true → M v' = true → zEq (zU N w) v v') ∧ ∀ v, M v = true → zEq (zU N w) v (i % N)
def zPd (N : Int) (A w : Int → Int) : List Int → List Int → Prop
  | [], _ => True
  | h :: hs, s :: ss => (∃ o, w o = h ∧ 0 ≤ o ∧ o < h ∧ zMs N A w o s) ∧ zPd N A w hs ss
  | _ :: _, [] => False
def zRq (R : Int → Int → Int → Nat) (i h s : Int) : Nat := if s ≤ 4 then R i h s else 0
def zbd (N : Int) (A : Int → Int) (R : Int → Int → Int → Nat) : Int → List Int → Int → List Int → Nat
  | i, [], s, _ => zRq R i N s
  | i, h :: hs, s, s' :: ss => zRq R i h s * zbd N A R (h + 1) hs (s' + zaZ N A (h + 1)) ss
  | _, _ :: _, _, [] => 0
def zRs (N : Int) (A : Int → Int) (R : Int → Int → Int → Nat) (i h s : Int) : Nat → Int → Nat
  | 0, _ => 0
  | c + 1, j => zRq R (i + 1) j (zaZ N A (i + 1)) * zRq R (j + 1) h (s + zaZ N A (j + 1)) + zRs N A R i h s c (j + 2)
section BD
variable {N e i j h s : Int} {f : Nat} {hs ss : List Int} {A w w' : Int → Int} {R : Int → Int → Int → Nat}
theorem zMs_ex (h : zMs N A w i s) (hx : zex N w w') : zMs N A w' i s := by
  obtain ⟨M, h1, h2, h3, h4⟩ := h
  exact ⟨M, h1, h2, fun v v' a b => zex_U hx v v' (h3 v v' a b), fun v a => zex_U hx _ _ (h4 v a)⟩
theorem zMs_0 : zMs N A w 0 0 := by
  refine ⟨fun _ => false, fun v hv => (by cases hv), ?_, fun v v' a b => (by cases a), fun v a => (by cases a)⟩
  rw [zS_eq (g := fun _ => 0) _ (fun v _ _ => if_neg (fun z => by cases z)), zS_const]
  omega
theorem zMs_1 (hi : 1 ≤ i ∧ i < N) : zMs N A w i (zaZ N A i) := by
  have im : i % N = i := Int.emod_eq_of_lt (by omega) hi.2
  refine ⟨fun v => decide (v = i), fun v hv => ?_, ?_, fun v v' a b => ?_, fun v a => ?_⟩
  · have := of_decide_eq_true hv
    omega
  · unfold zaZ
    rw [im, zS_one N.toNat (j := i) (by omega) (fun j _ _ ne => if_neg (fun z => ne (of_decide_eq_true z)))]
    exact (if_pos (decide_eq_true rfl)).symm
  · rw [of_decide_eq_true a, of_decide_eq_true b]
    exact zEq_r
  · rw [of_decide_eq_true a, im]
    exact zEq_r
theorem zMs_up (hn : 0 < N) {o : Int} (h : zMs N A w o s) (ho : 0 ≤ o ∧ o < i) (hi : i ≤ N) (he : w o = i - 1) : zMs N A w i (s + zaZ N A i) := by
  obtain ⟨M, h1, h2, h3, h4⟩ := h
  have om : o % N = o := Int.emod_eq_of_lt ho.1 (by omega)
  have lk : zEq (zU N w) o (i % N) := zEq_u ⟨⟨ho.1, by omega⟩, by omega, by rw [he, show i - 1 + 1 = i by omega]⟩
  have hx0 := Int.emod_nonneg i (b := N) (by omega)
  have hx1 := Int.emod_lt_of_pos i (b := N) hn
  have hxi : i % N = i ∨ (i = N ∧ i % N = 0) := by
    rcases (by omega : i < N ∨ i = N) with q | q
    · exact Or.inl (Int.emod_eq_of_lt (by omega) q)
    · exact Or.inr ⟨q, by rw [q]; exact Int.emod_self⟩
  unfold zaZ zMs
  generalize i % N = x at *
  have ni : M x = false := by
    cases hz : M x with
    | false => rfl
    | true =>
      have := (h1 x hz).2 (by omega)
      omega
  rw [om] at h4
  have one : ∀ v, (decide (v = x) || M v) = true → zEq (zU N w) v x := fun v hv => by
    rcases Bool.or_eq_true_iff.mp hv with y | y
    · rw [of_decide_eq_true y]
      exact zEq_r
    · exact zEq_t (h4 v y) lk
  refine ⟨fun v => decide (v = x) || M v, fun v hv => ?_, ?_, fun v v' a b => zEq_t (one v a) (zEq_s (one v' b)), one⟩
  · rcases Bool.or_eq_true_iff.mp hv with y | y
    · have := of_decide_eq_true y
      omega
    · have := h1 v y
      omega
  · have e1 : zS N.toNat (fun v => if (decide (v = x) || M v) = true then A v else 0) = zS N.toNat (fun v => (if M v = true then A v else 0) + (if v = x then A v else 0)) := zS_eq _ (fun v _ _ => by
      by_cases y : v = x
      · rw [y, decide_eq_true rfl, ni]
        show A x = 0 + (if x = x then A x else 0)
        rw [if_pos rfl]
        omega
      · rw [decide_eq_false y, if_neg y, Int.add_zero]
        rfl)
    rw [e1, zS_add, ← h2, zS_one (f := fun v => if v = x then A v else 0) N.toNat (j := x) (by omega) (fun j _ _ ne => if_neg ne), if_pos rfl]
theorem zMs_no (hA : ∀ j, 0 ≤ j → j < N → 0 ≤ A j) (v : zIv N w i hs) (h : zMs N A w j s) (h4 : 4 < s) : zGl N A f w i hs = [] := by
  obtain ⟨M, h1, h2, h3, _⟩ := h
  have ex : ∃ k, M k = true := Classical.byContradiction fun z => by
    rw [zS_eq (g := fun _ => 0) _ (fun k _ _ => if_neg (fun y => z ⟨k, y⟩)), zS_const] at h2
    omega
  obtain ⟨k, hk⟩ := ex
  have rk := h1 k hk
  refine zGl_no hA v (k := k) (by omega) ?_
  have : s ≤ zwt N A (zU N w) k := by
    rw [h2]
    unfold zwt
    refine zS_le _ (fun x x0 x1 => ?_)
    by_cases y : M x = true
    · rw [if_pos y, if_pos (zpd_t (h3 x k y hk))]
      exact Int.le_refl _
    · rw [if_neg y]
      split
      · exact hA x x0 (by omega)
      · exact Int.le_refl _
  omega
theorem zPd_ex (hx : zex N w w') (hN : ∀ t, 0 ≤ t → t < N → w t < N) : ∀ {hs ss : List Int}, (∀ h, h ∈ hs → h < N) → zPd N A w hs ss → zPd N A w' hs ss
  | [], _, _, _ => trivial
  | h :: hs, s :: ss, hb, hp => by
    obtain ⟨⟨o, o1, o2, o3, o4⟩, hp2⟩ := hp
    have hh := hb h List.mem_cons_self
    exact ⟨⟨o, by rw [hx o o2 (by omega) (by omega)]; exact o1, o2, o3, zMs_ex o4 hx⟩, zPd_ex hx hN (fun x hx2 => hb x (List.mem_cons_of_mem _ hx2)) hp2⟩
  | _ :: _, [], _, hp => absurd hp (fun z => z)
theorem zHg_mem : ∀ {hs : List Int} {i : Int}, zHg N w i hs → ∀ h, h ∈ hs → h < N
  | [], _, _, h, hm => absurd hm (List.not_mem_nil)
  | a :: hs, i, v, h, hm => by
    rcases List.mem_cons.mp hm with rfl | hm
    · exact v.1.2
    · exact zHg_mem v.2.2.2.2 h hm
theorem zRq_le {s : Int} (h : s ≤ 4) : zRq R i j s = R i j s := if_pos h
/-- what stands behind the gap -/
def zrho (N : Int) (A : Int → Int) (R : Int → Int → Int → Nat) : List Int → List Int → Nat
  | [], _ => 1
  | h :: hs, s' :: ss => zbd N A R (h + 1) hs (s' + zaZ N A (h + 1)) ss
  | _ :: _, [] => 0
theorem zbd_rho (hp : zPd N A w hs ss) : zbd N A R i hs s ss = zRq R i (zen N hs) s * zrho N A R hs ss := by
  cases hs with
  | nil => exact (Nat.mul_one _).symm
  | cons h hs =>
    cases ss with
    | nil => exact absurd hp (fun z => z)
    | cons s' ss => rfl
theorem zGl_bd (hn : 0 < N) (hA : ∀ j, 0 ≤ j → j < N → 0 ≤ A j) (R0 : ∀ i s, 0 ≤ i → i ≤ N → 0 ≤ s → s ≤ 4 → 1 ≤ R i i s) (R1 : ∀ i h s, 0 ≤ i → i < h → h ≤ N → (h - i) % 2 = 0 → 0 ≤ s → s ≤ 4 → zRs N A R i h s ((h - i) / 2).toNat (i + 1) ≤ R i h s) : ∀ (f : Nat) (w : Int → Int) (i : Int) (hs : List Int) (s : Int) (ss : List Int), (f : Int) = N - i + 1 → zIv N w i hs → 0 ≤ s → zMs N A w i s → zPd N A w hs ss → (zGl N A f w i hs).length ≤ zbd N A R i hs s ss := by
  intro f
  induction f with
  | zero =>
    intro w i hs s ss hf v
    have := zHg_le v.2.1
    omega
  | succ f ih =>
    intro w i hs s ss hf v s0 ms pd
    obtain ⟨l1, l2, l3, l4, l5⟩ := zHg_le v.2.1
    have i0 := v.1
    by_cases s4 : s ≤ 4
    · have go : i < zen N hs → (zcdt (zGl N A f) w i hs ((zen N hs - i) / 2).toNat (i + 1)).length ≤ zbd N A R i hs s ss := fun hie => by
        have cand : ∀ (c : Nat) (j : Int), i < j → (j - i) % 2 = 1 → j + 2 * c = zen N hs + 1 → (zcdt (zGl N A f) w i hs c j).length ≤ zRs N A R i (zen N hs) s c j * zrho N A R hs ss := by
          intro c
          induction c with
          | zero =>
            intro j _ _ _
            show 0 ≤ _
            omega
          | succ c ihc =>
            intro j h1 h2 h3
            have e1 : zcdt (zGl N A f) w i hs (c + 1) j = zGl N A f (zgp w i j) (i + 1) (j :: hs) ++ zcdt (zGl N A f) w i hs c (j + 2) := rfl
            have e2 : zRs N A R i (zen N hs) s (c + 1) j = zRq R (i + 1) j (zaZ N A (i + 1)) * zRq R (j + 1) (zen N hs) (s + zaZ N A (j + 1)) + zRs N A R i (zen N hs) s c (j + 2) := rfl
            obtain ⟨p1, p2, p3, p4, p5⟩ := zIv_put v h1 (by omega) h2
            have hx : zex N w (zgp w i j) := zex_pt p2 p3
            have az : 0 ≤ zaZ N A (i + 1) := hA _ (Int.emod_nonneg _ (by omega)) (Int.emod_lt_of_pos _ hn)
            have C := ih (zgp w i j) (i + 1) (j :: hs) (zaZ N A (i + 1)) (s :: ss) (by omega) p1 az (zMs_1 ⟨by omega, by omega⟩) ⟨⟨i, zgp_1, p4, h1, zMs_ex ms hx⟩, zPd_ex hx (fun t t0 t1 => (v.2.2.2.1 t t0 t1).2) (zHg_mem v.2.1) pd⟩
            have e3 : zbd N A R (i + 1) (j :: hs) (zaZ N A (i + 1)) (s :: ss) = zRq R (i + 1) j (zaZ N A (i + 1)) * zbd N A R (j + 1) hs (s + zaZ N A (j + 1)) ss := rfl
            rw [e3, zbd_rho pd] at C
            have I := ihc (j + 2) (by omega) (by omega) (by omega)
            rw [e1, e2, List.length_append, Nat.add_mul, Nat.mul_assoc]
            omega
        have C := cand ((zen N hs - i) / 2).toNat (i + 1) (by omega) (by omega) (by omega)
        have r1 := R1 i (zen N hs) s i0 hie l3 l4 s0 s4
        rw [zbd_rho pd, zRq_le s4]
        exact Nat.le_trans C (Nat.mul_le_mul_right _ r1)
      cases hs with
      | nil =>
        have eq : zGl N A (f + 1) w i [] = (if i = N then (if zpd (zVa N A w) = true then [w] else []) else zcdt (zGl N A f) w i [] ((N - i) / 2).toNat (i + 1)) := rfl
        rw [eq]
        by_cases q : i = N
        · rw [if_pos q]
          have r0 := R0 i s i0 l1 s0 s4
          have eb : zbd N A R i [] s ss = zRq R i N s := rfl
          rw [eb, zRq_le s4, ← q]
          split
          · exact r0
          · exact Nat.zero_le _
        · rw [if_neg q]
          have l1' : i ≤ N := l1
          exact go (by show i < N; omega)
      | cons h hs =>
        have eq : zGl N A (f + 1) w i (h :: hs) = (if i = h then zGl N A f w (i + 1) hs else zcdt (zGl N A f) w i (h :: hs) ((h - i) / 2).toNat (i + 1)) := rfl
        rw [eq]
        obtain ⟨u1, u2, u3, u4, u5⟩ := v.2.1
        by_cases q : i = h
        · rw [if_pos q]
          have v2 : zIv N w (i + 1) hs := by
            subst q
            exact zIv_skip v
          cases ss with
          | nil => exact absurd pd (fun z => z)
          | cons s' ss =>
            obtain ⟨⟨o, o1, o2, o3, o4⟩, pd2⟩ := pd
            have s'0 : 0 ≤ s' := by
              obtain ⟨M, m1, m2, _⟩ := o4
              rw [m2]
              refine zS_nn _ (fun x x0 x1 => ?_)
              split
              · exact hA x x0 (by omega)
              · exact Int.le_refl _
            have az : 0 ≤ zaZ N A (i + 1) := hA _ (Int.emod_nonneg _ (by omega)) (Int.emod_lt_of_pos _ hn)
            have I := ih w (i + 1) hs (s' + zaZ N A (i + 1)) ss (by omega) v2 (by omega) (zMs_up hn (o := o) o4 ⟨o2, by omega⟩ (by omega) (by omega)) pd2
            have eb : zbd N A R i (h :: hs) s (s' :: ss) = zRq R i h s * zbd N A R (h + 1) hs (s' + zaZ N A (h + 1)) ss := rfl
            have r0 := R0 i s i0 l1 s0 s4
            rw [eb, zRq_le s4, ← q]
            exact Nat.le_trans I (Nat.le_mul_of_pos_left _ r0)
        · rw [if_neg q]
          exact go (by show i < h; omega)
    · rw [zMs_no (f := f + 1) hA v ms (by omega)]
      exact Nat.zero_le _
end BD

/-! GLUINGS: the class's small parts of the search; how many turns it takes at most -/
def zcat : Nat → Nat
  | 0 => 1 | 1 => 1 | 2 => 2 | 3 => 5 | 4 => 14 | 5 => 42 | 6 => 132 | 7 => 429 | 8 => 1430 | 9 => 4862 | 10 => 16796 | 11 => 58786 | _ => 208012
def zcb (m τ : Nat) : Nat := zcat (m + 1) - zcat m + zcat m * τ
def zBn (N : Int) : Int → List Int → Nat
  | i, [] => zcb ((N - i) / 2).toNat 1
  | i, h :: hs => zcb ((h - i) / 2).toNat (zBn N (h + 1) hs)
def zBw (N : Int) : List Int → Nat
  | [] => 1
  | h :: hs => zBn N (h + 1) hs
def zBu (m τ : Nat) : Nat → Nat
  | 0 => 0
  | c + 1 => zcb (m - 1 - c) (zcb c τ) + zBu m τ c
def zwd (u : Int → Int) : Nat → Int
  | 0 => 0
  | n + 1 => if (n : Int) < u n then zor (zwd u n) n else zwd u n
def zSV (N : Int) (A : Int → Int) (D : Int) (w : Int → Int) (m : z_Mem) : Prop := m 44 3 = N ∧ (∀ t, 0 ≤ t → t < N → m 45 t = w t) ∧ zPt N A (zU N w) (m (50 + D)) (m (63 + D)) ∧ ∀ x, 0 ≤ x → x < N → 0 ≤ w x → zwt N A (zU N w) x ≤ 4
section CL
variable {N a b c i j e D r0 n0 : Int} {hs : List Int} {A u w w' : Int → Int} {μ : z_Mem} {d : Nat} {K : Int → z_Mem → Prop} {Kn : z_Mem → Prop}
theorem zBn_e : zBn N i hs = zcb ((zen N hs - i) / 2).toNat (zBw N hs) := by
  cases hs <;> rfl
theorem zcb_0 {τ : Nat} : zcb 0 τ = τ := by
  show zcat 1 - zcat 0 + zcat 0 * τ = τ
  show 0 + 1 * τ = τ
  omega
theorem zBu_le {m τ : Nat} (h1 : 1 ≤ m) (h2 : m ≤ 11) : 1 + zBu m τ m ≤ zcb m τ := by
  rcases (by omega : m = 1 ∨ m = 2 ∨ m = 3 ∨ m = 4 ∨ m = 5 ∨ m = 6 ∨ m = 7 ∨ m = 8 ∨ m = 9 ∨ m = 10 ∨ m = 11) with rfl | rfl | rfl | rfl | rfl | rfl | rfl | rfl | rfl | rfl | rfl <;> (simp only [zBu, zcb, zcat]; omega)
theorem zwd_n : ∀ n : Nat, 0 ≤ zwd u n ∧ zwd u n < ((2 ^ n : Nat) : Int)
  | 0 => by show (0 : Int) ≤ 0 ∧ (0 : Int) < 1; omega
  | n + 1 => by
    obtain ⟨h1, h2⟩ := zwd_n n
    have p : ((2 ^ (n + 1) : Nat) : Int) = 2 * ((2 ^ n : Nat) : Int) := by rw [Nat.pow_succ]; omega
    show 0 ≤ (if (n : Int) < u n then zor (zwd u n) n else zwd u n) ∧ (if (n : Int) < u n then zor (zwd u n) n else zwd u n) < _
    split
    · exact ⟨zor_n, zor_lt (by omega) (by omega)⟩
    · omega
theorem zwd_b : ∀ (n : Nat) (k : Int), 0 ≤ k → zbt (zwd u n) k = (decide (k < n) && decide (k < u k))
  | 0, k, k0 => by
    rw [show decide (k < ((0 : Nat) : Int)) = false from decide_eq_false (by omega)]
    exact zbt_0
  | n + 1, k, k0 => by
    have ih := zwd_b n k k0
    show zbt (if (n : Int) < u n then zor (zwd u n) n else zwd u n) k = _
    by_cases q : (n : Int) < u n
    · rw [if_pos q, zbt_or (by omega) k0, ih]
      by_cases z : k = n
      · rw [z, decide_eq_true q, decide_eq_true (rfl : (n : Int) = n), decide_eq_true (show (n : Int) < ((n + 1 : Nat) : Int) by omega)]
        cases decide ((n : Int) < (n : Int)) <;> rfl
      · rw [decide_eq_false z, Bool.or_false]
        by_cases y : k < n
        · rw [decide_eq_true y, decide_eq_true (show k < ((n + 1 : Nat) : Int) by omega)]
        · rw [decide_eq_false y, decide_eq_false (show ¬ k < ((n + 1 : Nat) : Int) by omega)]
    · rw [if_neg q, ih]
      by_cases z : k = n
      · rw [z, decide_eq_false q, Bool.and_false, Bool.and_false]
      · by_cases y : k < n
        · rw [decide_eq_true y, decide_eq_true (show k < ((n + 1 : Nat) : Int) by omega)]
        · rw [decide_eq_false y, decide_eq_false (show ¬ k < ((n + 1 : Nat) : Int) by omega)]
theorem zwd_ag : ∀ n : Nat, (∀ t : Int, 0 ≤ t → t < n → u t = w t) → zwd u n = zwd w n
  | 0, _ => rfl
  | n + 1, h => by
    show (if (n : Int) < u n then zor (zwd u n) n else zwd u n) = (if (n : Int) < w n then zor (zwd w n) n else zwd w n)
    rw [zwd_ag n (fun t t0 t1 => h t t0 (by omega)), h n (by omega) (by omega)]
theorem e_wordOf (hr0 : z_kd r0 = 14 ∧ z_ln r0 = n0) (h44 : μ 44 3 = N) (hn : 0 < N ∧ N ≤ 22) (hl : 22 ≤ n0) (hu : ∀ t, 0 ≤ t → t < N → μ r0 t = u t) (hk : K (zwd u N.toNat) μ) : z_ci m_X1_wordOf [(2, 44), (2, r0)] μ d K := by
  have key : ∀ (j i : Nat), (i : Int) + j = N → z_ri m_X1_wordOf 4 [some (2, 44), some (2, r0), some (0, zwd u i), some (0, (i : Int))] μ d K := by
    intro j
    induction j with
    | zero =>
      intro i hi
      refine V_X1_wordOf_4 hr0 ?_
      rw [h44]
      refine ⟨fun _ => ?_, fun q => by omega⟩
      rw [show N.toNat = i by omega] at hk
      exact hk
    | succ j ih =>
      intro i hi
      have nx := ih (i + 1) (by omega)
      have e1 : zwd u (i + 1) = if (i : Int) < u i then zor (zwd u i) i else zwd u i := rfl
      refine V_X1_wordOf_4 hr0 ?_
      rw [h44, hu i (by omega) (by omega)]
      refine ⟨fun q => by omega, fun q => ⟨(by first | omega | exact ⟨by omega, by omega⟩), fun z => ⟨(by first | omega | exact ⟨by omega, by omega⟩), ?_⟩, fun z => ⟨(by first | omega | exact ⟨by omega, by omega⟩), ⟨(zwd_n i).1, by rw [zpw']; exact Int.natCast_nonneg _⟩, (by first | omega | exact ⟨by omega, by omega⟩), ?_⟩⟩⟩
      · rw [e1, if_neg (by omega)] at nx
        exact nx
      · rw [e1, if_pos z] at nx
        exact nx
  exact V_X1_wordOf hr0 (key N.toNat 0 (by omega))
theorem zk45 : z_kd 45 = 14 ∧ z_ln 45 = 22 := by constructor <;> decide +kernel
theorem e_store (h44 : μ 44 3 = N) (hn : 0 < N ∧ N ≤ 22) (hu : ∀ t, 0 ≤ t → t < N → μ 45 t = u t) (hc : μ 44 1 = c) (c0 : 0 ≤ c ∧ c < 64) (hk : Kn (z_st (z_st μ 46 c (zwd u N.toNat)) 44 1 (c + 1))) : z_cn m_X1_store [(2, 44)] μ (d + 1) Kn := by
  refine V_X1_store ?_
  rw [hc]
  refine ⟨fun q => by omega, fun q => e_wordOf zk45 h44 hn (by decide) hu ?_⟩
  rw [z_st_ne (show (44 : Int) ≠ 46 by decide), hc]
  exact ⟨(by first | omega | exact ⟨by omega, by omega⟩), (by first | omega | exact ⟨by omega, by omega⟩), hk⟩
theorem e_open (hD : 0 ≤ D ∧ D < 12) (h44 : μ 44 3 = N) (hn : 0 < N ∧ N ≤ 22) (hw : ∀ t, 0 ≤ t → t < N → μ 45 t = w t) (hr : ∀ t, 0 ≤ t → t < N → -1 ≤ w t) (hk : ∀ e, (0 ≤ e ∧ e < N) → (∀ t, 0 ≤ t → t < e → 0 ≤ w t) → (w e = -1 ∨ e = N - 1) → Kn (z_st (z_st μ 47 D e) 48 D (e - 1))) : z_cn m_X1_open [(2, 44), (0, D)] μ d Kn := by
  have key : ∀ k, 0 ≤ k → k ≤ N - 1 → (∀ t, 0 ≤ t → t < k → 0 ≤ w t) → z_rn m_X1_open 2 [some (2, 44), some (0, D), some (0, k)] μ d Kn := by
    refine z_up (fun k k0 k1 ih hm => V_X1_open_2 ?_)
    rw [h44, hw k k0 (by omega)]
    refine ⟨(by first | omega | exact ⟨by omega, by omega⟩), fun q => ⟨hD, (by first | omega | exact ⟨by omega, by omega⟩), hD, hk k (by omega) hm (Or.inr (by omega))⟩, fun q => ⟨(by first | omega | exact ⟨by omega, by omega⟩), fun z => ⟨hD, (by first | omega | exact ⟨by omega, by omega⟩), hD, hk k (by omega) hm (Or.inl z)⟩, fun z => ⟨(by first | omega | exact ⟨by omega, by omega⟩), ih q (fun t t0 t1 => ?_)⟩⟩⟩
    by_cases y : t = k
    · rw [y]
      have := hr k k0 (by omega)
      omega
    · exact hm t t0 (by omega)
  exact V_X1_open (key 0 (by omega) (by omega) (fun t t0 t1 => by omega))
/-- what the pair ahead leaves when it is taken up -/
def ztu (m : z_Mem) (D : Int) (w : Int → Int) : Int → Int := fun t => if 0 < D ∧ (t = m 47 (D - 1) ∨ t = m 48 (D - 1)) then -1 else w t
theorem e_takeUp (hD : 0 ≤ D ∧ D < 12) (hn : N ≤ 22) (hp : 0 < D → (0 ≤ μ 47 (D - 1) ∧ μ 47 (D - 1) < N) ∧ 0 ≤ μ 48 (D - 1) ∧ μ 48 (D - 1) < N) (hk : ∀ m, (∀ o x, o ≠ 45 → m o x = μ o x) → m 45 = ztu μ D (μ 45) → Kn m) : z_cn m_X1_takeUp [(2, 44), (0, D + (-1))] μ d Kn := by
  refine V_X1_takeUp ?_
  rw [show D + (-1) = D - 1 by omega]
  refine ⟨fun q => hk μ (fun _ _ _ => rfl) (funext fun t => by unfold ztu; rw [if_neg (by omega)]), fun q => ?_⟩
  obtain ⟨p1, p2⟩ := hp (by omega)
  rw [z_st_ne (show (48 : Int) ≠ 45 by decide)]
  refine ⟨(by first | omega | exact ⟨by omega, by omega⟩), ⟨by omega, by omega⟩, (by first | omega | exact ⟨by omega, by omega⟩), ⟨by omega, by omega⟩, hk _ (fun o x y => by rw [z_st_ne y, z_st_ne y]) (funext fun t => ?_)⟩
  unfold ztu
  by_cases z : t = μ 48 (D - 1)
  · rw [z, z_st_eq, if_pos ⟨by omega, Or.inr rfl⟩]
  · rw [z_st_ni z]
    by_cases y : t = μ 47 (D - 1)
    · rw [y, z_st_eq, if_pos ⟨by omega, Or.inl rfl⟩]
    · rw [z_st_ni y, if_neg (by omega)]
end CL

/-! what a text tells, as a relation; the class's reader keeps it -/
def zs_up (s : Int → Int) (i v : Int) : Int → Int := fun j => if j = i then v else s j
def zab (x : Int) : Int := max x (-x)
def z_ap (s : Int → Int) (a b c : Int) : Int := zab (s (3 * a + c) - s (3 * b + c))
def z_di (s : Int → Int) (a b : Int) : Int := z_ap s a b 0 + z_ap s a b 1 + z_ap s a b 2
/-- cube n may stand behind the first n -/
def zc_st (s : Int → Int) (n : Int) : Prop := (∀ o, 0 ≤ o → o < n → z_di s n o ≠ 0) ∧ (n = 0 ∨ ∃ o, 0 ≤ o ∧ o < n ∧ z_di s n o = 1)
def zc_sk (s : Int → Int) (a b : Int) : Prop := z_di s a b = 2 ∧ z_ap s a b 0 < 2 ∧ z_ap s a b 1 < 2 ∧ z_ap s a b 2 < 2
def zc_th (s : Int → Int) (n a b : Int) : Prop := ∃ t, 0 ≤ t ∧ t < n ∧ z_di s a t = 1 ∧ z_di s t b = 1
def zc_so (s : Int → Int) (n : Int) : Prop := ∀ a b, 0 ≤ b → b < a → a < n → zc_sk s a b → zc_th s n a b
/-- three numbers -/
def zq_ax (T : Int → Int) (L : Int) : Nat → Int → Int → (Int → Int) → Int → Int → Int → (Int → Int) → Int → Int → Prop
  | 0, _, _, s, p, l, f, s', p', l' => f = -1 ∧ s' = s ∧ p' = p ∧ l' = l
  | k + 1, n, c, s, p, _, f, s', p', l' =>
    (zr (zb_di T) L (zr (zb_sp T) L p) = zr (zb_sp T) L p ∧ f = 8 * zr (zb_sp T) L p + 1)
    ∨ (zr (zb_sp T) L p < zr (zb_di T) L (zr (zb_sp T) L p) ∧ 6 < zv T (zr (zb_di T) L (zr (zb_sp T) L p)) (zr (zb_sp T) L p) 0 ∧ f = 8 * zr (zb_sp T) L p + 2)
    ∨ (zr (zb_sp T) L p < zr (zb_di T) L (zr (zb_sp T) L p) ∧ 0 ≤ zv T (zr (zb_di T) L (zr (zb_sp T) L p)) (zr (zb_sp T) L p) 0 ∧ zv T (zr (zb_di T) L (zr (zb_sp T) L p)) (zr (zb_sp T) L p) 0 ≤ 6 ∧ zq_ax T L k n (c + 1) (zs_up s (3 * n + c) (zv T (zr (zb_di T) L (zr (zb_sp T) L p)) (zr (zb_sp T) L p) 0)) (zr (zb_di T) L (zr (zb_sp T) L p)) (zr (zb_sp T) L p) f s' p' l')
/-- one cube -/
def zq_cu (T : Int → Int) (L n : Int) (s : Int → Int) (p f : Int) (s' : Int → Int) (p' : Int) : Prop :=
  (¬ zp_w T (zr (zb_sp T) L p) (zr (zb_le T) L (zr (zb_sp T) L p)) ∧ f = 8 * zr (zb_sp T) L p + 1)
  ∨ (zp_w T (zr (zb_sp T) L p) (zr (zb_le T) L (zr (zb_sp T) L p)) ∧ 7 ≤ n ∧ f = 8 * zr (zb_sp T) L p + 3)
  ∨ (zp_w T (zr (zb_sp T) L p) (zr (zb_le T) L (zr (zb_sp T) L p)) ∧ n < 7 ∧ ∃ f1 l, zq_ax T L 3 n 0 s (zr (zb_le T) L (zr (zb_sp T) L p)) 0 f1 s' p' l ∧ ((¬ f1 = -1 ∧ f = f1) ∨ (f1 = -1 ∧ ¬ zc_st s' n ∧ f = 8 * l + 4) ∨ (f1 = -1 ∧ zc_st s' n ∧ f = -1)))
/-- all cubes -/
def zq_re (T : Int → Int) (L : Int) : Nat → Int → (Int → Int) → Int → Int → Int → (Int → Int) → Prop
  | 0, _, _, _, _, _, _ => False
  | k + 1, n, s, p, f, n', s' => ∃ f1 s1 p1, zq_cu T L n s p f1 s1 p1 ∧ ((¬ f1 = -1 ∧ f = f1)
    ∨ (f1 = -1 ∧ zr (zb_sp T) L p1 = L ∧ zc_so s1 (n + 1) ∧ f = -1 ∧ n' = n + 1 ∧ s' = s1)
    ∨ (f1 = -1 ∧ zr (zb_sp T) L p1 = L ∧ ¬ zc_so s1 (n + 1) ∧ f = 8 * L + 5)
    ∨ (f1 = -1 ∧ zr (zb_sp T) L p1 < L ∧ ¬ T (zr (zb_sp T) L p1) = 59 ∧ f = 8 * zr (zb_sp T) L p1 + 1)
    ∨ (f1 = -1 ∧ zr (zb_sp T) L p1 < L ∧ T (zr (zb_sp T) L p1) = 59 ∧ zq_re T L k (n + 1) s1 (zr (zb_sp T) L p1 + 1) f n' s'))
/-- the rows tell alike below m -/
def z_ag (s t : Int → Int) (m : Int) : Prop := ∀ i, 0 ≤ i → i < m → s i = t i
theorem z_ag_di {s t : Int → Int} {m a b : Int} (h : z_ag s t m) (ha : 0 ≤ a ∧ 3 * a + 3 ≤ m) (hb : 0 ≤ b ∧ 3 * b + 3 ≤ m) : z_di s a b = z_di t a b := by
  unfold z_di z_ap
  rw [h _ (by omega) (by omega), h (3 * b + 0) (by omega) (by omega), h (3 * a + 1) (by omega) (by omega), h (3 * b + 1) (by omega) (by omega), h (3 * a + 2) (by omega) (by omega), h (3 * b + 2) (by omega) (by omega)]
theorem z_ag_ap {s t : Int → Int} {m a b c : Int} (h : z_ag s t m) (ha : 0 ≤ a ∧ 3 * a + 3 ≤ m) (hb : 0 ≤ b ∧ 3 * b + 3 ≤ m) (hc : 0 ≤ c ∧ c < 3) : z_ap s a b c = z_ap t a b c := by
  unfold z_ap
  rw [h _ (by omega) (by omega), h (3 * b + c) (by omega) (by omega)]
section PB
variable {a b c : Int} {μ : z_Mem} {d : Nat} {K : Int → z_Mem → Prop} {Kn : z_Mem → Prop}
/-- coordinates are 0 to 6 -/
def z_c6 (s : Int → Int) (m : Int) : Prop := ∀ i, 0 ≤ i → i < m → 0 ≤ s i ∧ s i ≤ 6
theorem e_apart (ha : 0 ≤ a ∧ a < 7) (hb : 0 ≤ b ∧ b < 7) (hc : 0 ≤ c ∧ c < 3) {m : Int} (h6 : z_c6 (μ 4) m) (hm : 3 * a + 3 ≤ m ∧ 3 * b + 3 ≤ m) (h : K (z_ap (μ 4) a b c) μ) : z_ci m_X4_apart [(2, 3), (0, a), (0, b), (0, c)] μ (d + 1) K := by
  have h1 := h6 (3 * a + c) (by omega) (by omega)
  have h2 := h6 (3 * b + c) (by omega) (by omega)
  refine V_X4_apart ?_
  refine ⟨⟨by omega, by omega⟩, ⟨by omega, by omega⟩, ⟨by omega, by omega⟩, ⟨by omega, by omega⟩, ⟨by omega, by omega⟩, ⟨by omega, by omega⟩, ⟨by omega, by omega⟩, ⟨by omega, by omega⟩, ?_⟩
  exact h
theorem z_ap_r {s : Int → Int} {m : Int} (h6 : z_c6 s m) (ha : 0 ≤ a) (hb : 0 ≤ b) (hc : 0 ≤ c ∧ c < 3) (hm : 3 * a + 3 ≤ m ∧ 3 * b + 3 ≤ m) : 0 ≤ z_ap s a b c ∧ z_ap s a b c ≤ 6 := by
  have h1 := h6 (3 * a + c) (by omega) (by omega)
  have h2 := h6 (3 * b + c) (by omega) (by omega)
  unfold z_ap zab
  omega
theorem e_distance (ha : 0 ≤ a ∧ a < 7) (hb : 0 ≤ b ∧ b < 7) {m : Int} (h6 : z_c6 (μ 4) m) (hm : 3 * a + 3 ≤ m ∧ 3 * b + 3 ≤ m) (h : K (z_di (μ 4) a b) μ) : z_ci m_X4_distance [(2, 3), (0, a), (0, b)] μ (d + 2) K := by
  have r0 := z_ap_r (c := 0) h6 ha.1 hb.1 (by omega) hm
  have r1 := z_ap_r (c := 1) h6 ha.1 hb.1 (by omega) hm
  have r2 := z_ap_r (c := 2) h6 ha.1 hb.1 (by omega) hm
  refine V_X4_distance (e_apart ha hb (by omega) h6 hm (e_apart ha hb (by omega) h6 hm ⟨⟨by omega, by omega⟩, e_apart ha hb (by omega) h6 hm ⟨⟨by omega, by omega⟩, h⟩⟩))
theorem e_canStand (hn : 0 ≤ a ∧ a < 7) (h6 : z_c6 (μ 4) (3 * a + 3)) (hy : zc_st (μ 4) a → K 1 μ) (hno : ¬ zc_st (μ 4) a → K 0 μ) : z_ci m_X4_canStand [(2, 3), (0, a)] μ (d + 3) K := by
  have key : ∀ k, 0 ≤ k → k ≤ a → ∀ v, (∀ o, 0 ≤ o → o < k → z_di (μ 4) a o ≠ 0) → (v = 0 ∧ ¬ (a = 0 ∨ ∃ o, 0 ≤ o ∧ o < k ∧ z_di (μ 4) a o = 1)) ∨ (v = 1 ∧ (a = 0 ∨ ∃ o, 0 ≤ o ∧ o < k ∧ z_di (μ 4) a o = 1)) → z_ri m_X4_canStand 12 [some (2, 3), some (0, a), some (0, v), some (0, k), none] μ (d + 3) K := by
    refine z_up (fun k h1 h2 ih v hz hv => ?_)
    refine V_X4_canStand_12 ?_
    refine ⟨fun q1 => ⟨by omega, ?_⟩, fun q2 => ?_⟩
    · obtain rfl : k = a := by omega
      rcases hv with ⟨rfl, hv⟩ | ⟨rfl, hv⟩
      · exact hno (fun h => hv h.2)
      · exact hy ⟨hz, hv⟩
    · have hk : k < a := q2
      refine e_distance hn ⟨h1, by omega⟩ h6 (by omega) ?_
      have hz' : z_di (μ 4) a k ≠ 0 → ∀ o, 0 ≤ o → o < k + 1 → z_di (μ 4) a o ≠ 0 := fun h o h3 h4 => by
        by_cases q : o = k
        · subst q
          exact h
        · exact hz o h3 (by omega)
      refine ⟨fun q1 => ⟨fun q2 => ⟨⟨by omega, by omega⟩, ?_⟩, fun q3 => ⟨⟨by omega, by omega⟩, ?_⟩⟩, fun q4 => ?_⟩
      · refine ih hk v (hz' q1) ?_
        rcases hv with ⟨rfl, hv⟩ | ⟨rfl, hv⟩
        · refine Or.inl ⟨rfl, fun h => hv ?_⟩
          rcases h with h | ⟨o, h3, h4, h5⟩
          · exact Or.inl h
          · refine Or.inr ⟨o, h3, ?_, h5⟩
            rcases (by omega : o < k ∨ o = k) with h | rfl
            · exact h
            · exact absurd h5 q2
        · refine Or.inr ⟨rfl, ?_⟩
          rcases hv with h | ⟨o, h3, h4, h5⟩
          · exact Or.inl h
          · exact Or.inr ⟨o, h3, by omega, h5⟩
      · exact ih hk 1 (hz' q1) (Or.inr ⟨rfl, Or.inr ⟨k, h1, by omega, q3⟩⟩)
      · exact hno (fun h => h.1 k h1 (by omega) q4)
  refine V_X4_canStand ?_
  refine ⟨fun q1 => ?_, fun q2 => ?_⟩
  · exact key 0 (by omega) (by omega) 0 (fun o h1 h2 => by omega) (Or.inl ⟨rfl, fun h => by rcases h with h | ⟨o, h3, h4, _⟩ <;> omega⟩)
  · exact key 0 (by omega) (by omega) 1 (fun o h1 h2 => by omega) (Or.inr ⟨rfl, Or.inl q2⟩)
theorem e_shareEdge (ha : 0 ≤ a ∧ a < 7) (hb : 0 ≤ b ∧ b < 7) {m : Int} (h6 : z_c6 (μ 4) m) (hm : 3 * a + 3 ≤ m ∧ 3 * b + 3 ≤ m) (hy : zc_sk (μ 4) a b → K 1 μ) (hn : ¬ zc_sk (μ 4) a b → K 0 μ) : z_ci m_X4_shareEdge [(2, 3), (0, a), (0, b)] μ (d + 3) K := by
  unfold zc_sk at hy hn
  refine V_X4_shareEdge (e_distance ha hb h6 hm ⟨fun q1 => hn (by omega), fun q1 => e_apart ha hb (by omega) h6 hm ⟨fun q2 => hn (by omega), fun q2 => e_apart ha hb (by omega) h6 hm ⟨fun q3 => hn (by omega), fun q3 => e_apart ha hb (by omega) h6 hm ⟨fun q4 => hn (by omega), fun q4 => hy (by omega)⟩⟩⟩⟩)
theorem e_haveThird (ha : 0 ≤ a ∧ a < 7) (hb : 0 ≤ b ∧ b < 7) (hn : μ 3 1 ≤ 7) (h6 : z_c6 (μ 4) (3 * μ 3 1)) (hm : a < μ 3 1 ∧ b < μ 3 1) (hy : zc_th (μ 4) (μ 3 1) a b → K 1 μ) (hno : ¬ zc_th (μ 4) (μ 3 1) a b → K 0 μ) : z_ci m_X4_haveThird [(2, 3), (0, a), (0, b)] μ (d + 3) K := by
  have key : ∀ k, 0 ≤ k → k ≤ μ 3 1 → (∀ t, 0 ≤ t → t < k → ¬ (z_di (μ 4) a t = 1 ∧ z_di (μ 4) t b = 1)) → z_ri m_X4_haveThird 2 [some (2, 3), some (0, a), some (0, b), some (0, k)] μ (d + 3) K := by
    refine z_up (fun k h1 h2 ih hz => ?_)
    have hz' : ¬ (z_di (μ 4) a k = 1 ∧ z_di (μ 4) k b = 1) → ∀ t, 0 ≤ t → t < k + 1 → ¬ (z_di (μ 4) a t = 1 ∧ z_di (μ 4) t b = 1) := fun h t h3 h4 => by
      by_cases q : t = k
      · subst q
        exact h
      · exact hz t h3 (by omega)
    refine V_X4_haveThird_2 ?_
    refine ⟨fun q1 => ?_, fun q2 => ?_⟩
    · refine hno (fun ⟨t, h3, h4, h5, h6⟩ => hz t h3 (by omega) ⟨h5, h6⟩)
    · refine e_distance ha (by omega) h6 (by omega) ⟨fun r1 => ⟨⟨by omega, by omega⟩, ih q2 (hz' (fun h => r1 h.1))⟩, fun r1 => e_distance (by omega) hb h6 (by omega) ⟨fun r2 => ⟨⟨by omega, by omega⟩, ih q2 (hz' (fun h => r2 h.2))⟩, fun r2 => hy ⟨k, h1, q2, r1, r2⟩⟩⟩
  exact V_X4_haveThird (key 0 (by omega) (by omega) (fun t h1 h2 => by omega))
theorem e_isSolid (hn : 0 ≤ μ 3 1 ∧ μ 3 1 ≤ 7) (h6 : z_c6 (μ 4) (3 * μ 3 1)) (hy : zc_so (μ 4) (μ 3 1) → K 1 μ) (hno : ¬ zc_so (μ 4) (μ 3 1) → K 0 μ) : z_ci m_X4_isSolid [(2, 3)] μ (d + 4) K := by
  have key : ∀ k, 0 ≤ k → k ≤ μ 3 1 → (∀ a b, 0 ≤ b → b < a → a < k → zc_sk (μ 4) a b → zc_th (μ 4) (μ 3 1) a b) → z_ri m_X4_isSolid 2 [some (2, 3), some (0, k), none] μ (d + 4) K := by
    refine z_up (fun k h1 h2 ih hz => ?_)
    have key2 : k < μ 3 1 → ∀ j, 0 ≤ j → j ≤ k → (∀ b, 0 ≤ b → b < j → zc_sk (μ 4) k b → zc_th (μ 4) (μ 3 1) k b) → z_ri m_X4_isSolid 12 [some (2, 3), some (0, k), some (0, j)] μ (d + 4) K := by
      intro hk
      refine z_up (fun j h3 h4 ih2 hj => ?_)
      have hj' : (zc_sk (μ 4) k j → zc_th (μ 4) (μ 3 1) k j) → ∀ b, 0 ≤ b → b < j + 1 → zc_sk (μ 4) k b → zc_th (μ 4) (μ 3 1) k b := fun h b h5 h6 => by
        by_cases q : b = j
        · subst q
          exact h
        · exact hj b h5 (by omega)
      refine V_X4_isSolid_12 ?_
      refine ⟨fun q1 => ⟨⟨by omega, by omega⟩, ?_⟩, fun q2 => ?_⟩
      · refine ih hk (fun a b h5 h6 h7 => ?_)
        by_cases q : a = k
        · subst q
          exact hj b h5 (by omega)
        · exact hz a b h5 h6 (by omega)
      · refine e_shareEdge (by omega) (by omega) h6 (by omega) (fun r1 => zy1' ?_) (fun r1 => zy0' ⟨⟨by omega, by omega⟩, ih2 q2 (hj' (fun h => absurd h r1))⟩)
        refine e_haveThird (by omega) (by omega) hn.2 h6 (by omega) (fun r2 => zy1 ⟨⟨by omega, by omega⟩, ih2 q2 (hj' (fun _ => r2))⟩) (fun r2 => zy0 (hno (fun h => r2 (h k j h3 q2 hk r1))))
    refine V_X4_isSolid_2 ?_
    refine ⟨fun q1 => ?_, fun q2 => ?_⟩
    · exact hy (fun a b h3 h4 h5 => hz a b h3 h4 (by omega))
    · exact key2 q2 0 (by omega) (by omega) (fun b h3 h4 => by omega)
  exact V_X4_isSolid (key 0 (by omega) (by omega) (fun a b h3 h4 h5 => by omega))
end PB

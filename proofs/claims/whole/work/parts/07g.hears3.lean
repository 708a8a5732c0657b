/-! the reference's reader: is it a SOLID -/
theorem z_ap_c {s : Int → Int} {a b c : Int} : z_ap s a b c = z_ap s b a c := by
  unfold z_ap zab
  omega
theorem z_di_c {s : Int → Int} {a b : Int} : z_di s a b = z_di s b a := by
  unfold z_di
  rw [z_ap_c (c := 0), z_ap_c (c := 1), z_ap_c (c := 2)]
/-- what is heard tells n cubes as in s -/
def zHs (m : z_Mem) (n : Int) (s : Int → Int) : Prop := m 115 0 = n ∧ 0 ≤ n ∧ n ≤ 7 ∧ ∀ a c, 0 ≤ a → a < n → 0 ≤ c → c < 3 → m 115 (1 + 3 * a + c) = s (3 * a + c) ∧ 0 ≤ s (3 * a + c) ∧ s (3 * a + c) ≤ 6
section PF
variable {m : z_Mem} {a b n : Int} {s : Int → Int} {d : Nat} {K : Int → z_Mem → Prop}
theorem zHs_r {c : Int} (h : zHs m n s) (ha : 0 ≤ a ∧ a < n) (hb : 0 ≤ b ∧ b < n) (hc : 0 ≤ c ∧ c < 3) : 0 ≤ z_ap s a b c ∧ z_ap s a b c ≤ 6 := by
  have h1 := h.2.2.2 a c ha.1 ha.2 hc.1 hc.2
  have h2 := h.2.2.2 b c hb.1 hb.2 hc.1 hc.2
  unfold z_ap zab
  omega
theorem e12_areAskew (h : zHs m n s) (ha : 0 ≤ a ∧ a < n) (hb : 0 ≤ b ∧ b < n) (hy : zc_sk s a b → K 1 m) (hn : ¬ zc_sk s a b → K 0 m) : z_ci m_X12_areAskew [(2, 113), (0, 1 + (3 * a)), (0, 1 + (3 * b))] m (d + 1) K := by
  have h7 := h.2.2.1
  have step : ∀ c t1 t2, 0 ≤ c → c < 3 → 0 ≤ t1 → t1 ≤ 12 → 0 ≤ t2 → t2 ≤ 12 → (∀ u1 u2, (z_ap s a b c = 1 → u1 = 1) → (¬ z_ap s a b c = 1 → u1 = 0) → (1 < z_ap s a b c → u2 = 1) → (z_ap s a b c ≤ 1 → u2 = 0) → z_ri m_X12_areAskew 8 [some (2, 113), some (0, 1 + (3 * a)), some (0, 1 + (3 * b)), some (0, t1 + u1), some (0, t2 + u2), some (0, c + 1), none] m (d + 1) K) → z_ri m_X12_areAskew 8 [some (2, 113), some (0, 1 + (3 * a)), some (0, 1 + (3 * b)), some (0, t1), some (0, t2), some (0, c), none] m (d + 1) K := fun c t1 t2 c1 c2 b1 b2 b3 b4 hh => by
    obtain ⟨e1, r1, r2⟩ := h.2.2.2 a c ha.1 ha.2 c1 c2
    obtain ⟨e2, r3, r4⟩ := h.2.2.2 b c hb.1 hb.2 c1 c2
    refine V_X12_areAskew_8 ?_
    rw [e1, e2]
    unfold z_ap zab at hh
    refine ⟨fun q => by omega, fun _ => ⟨⟨by omega, by omega⟩, ⟨by omega, by omega⟩, ⟨by omega, by omega⟩, ⟨by omega, by omega⟩, ⟨by omega, by omega⟩, ⟨by omega, by omega⟩, fun q7 => ?_, fun q8 => ?_⟩⟩
    · refine e_truth (fun _ => ⟨⟨by omega, by omega⟩, fun q1 => e_truth (fun _ => ⟨⟨by omega, by omega⟩, ⟨by omega, by omega⟩, ?_⟩) (fun x => absurd rfl x), fun q1 => e_truth (fun x => absurd x (by decide)) (fun _ => ⟨⟨by omega, by omega⟩, ⟨by omega, by omega⟩, ?_⟩)⟩) (fun x => absurd rfl x)
      · exact hh 0 0 (fun x => absurd x q7) (fun _ => rfl) (fun x => by omega) (fun _ => rfl)
      · exact hh 0 1 (fun x => absurd x q7) (fun _ => rfl) (fun _ => rfl) (fun x => by omega)
    · refine e_truth (fun x => absurd x (by decide)) (fun _ => ⟨⟨by omega, by omega⟩, fun q1 => e_truth (fun _ => ⟨⟨by omega, by omega⟩, ⟨by omega, by omega⟩, ?_⟩) (fun x => absurd rfl x), fun q1 => e_truth (fun x => absurd x (by decide)) (fun _ => ⟨⟨by omega, by omega⟩, ⟨by omega, by omega⟩, ?_⟩)⟩)
      · exact hh 1 0 (fun _ => rfl) (fun x => absurd q8 x) (fun x => by omega) (fun _ => rfl)
      · exact hh 1 1 (fun _ => rfl) (fun x => absurd q8 x) (fun _ => rfl) (fun x => by omega)
  have r0 := zHs_r (c := 0) h ha hb (by omega)
  have r1 := zHs_r (c := 0 + 1) h ha hb (by omega)
  have r2 := zHs_r (c := 0 + 1 + 1) h ha hb (by omega)
  have ed : z_di s a b = z_ap s a b 0 + z_ap s a b (0 + 1) + z_ap s a b (0 + 1 + 1) := rfl
  have ek : zc_sk s a b ↔ (z_di s a b = 2 ∧ z_ap s a b 0 < 2 ∧ z_ap s a b (0 + 1) < 2 ∧ z_ap s a b (0 + 1 + 1) < 2) := Iff.rfl
  rw [ek, ed] at hy hn
  refine V_X12_areAskew (step 0 0 0 (by omega) (by omega) (by omega) (by omega) (by omega) (by omega) (fun u1 u2 a1 a2 a3 a4 => step (0 + 1) _ _ (by omega) (by omega) (by omega) (by omega) (by omega) (by omega) (fun u3 u4 a5 a6 a7 a8 => step (0 + 1 + 1) _ _ (by omega) (by omega) (by omega) (by omega) (by omega) (by omega) (fun u5 u6 b1 b2 b3 b4 => ?_))))
  refine V_X12_areAskew_8 ⟨fun _ => ⟨fun q => hn (by omega), fun q => ⟨fun q' => hn (by omega), fun q' => hy (by omega)⟩⟩, fun q => by omega⟩
theorem e12_hasBetween (h : zHs m n s) (ha : 0 ≤ a ∧ a < n) (hb : 0 ≤ b ∧ b < n) (hy : zc_th s n a b → K 1 m) (hno : ¬ zc_th s n a b → K 0 m) : z_ci m_X12_hasBetween [(2, 113), (0, 1 + (3 * a)), (0, 1 + (3 * b))] m (d + 1) K := by
  have h7 := h.2.2.1
  have key : ∀ k, 0 ≤ k → k ≤ n → (∀ t, 0 ≤ t → t < k → ¬ (z_di s a t = 1 ∧ z_di s t b = 1)) → z_ri m_X12_hasBetween 2 [some (2, 113), some (0, 1 + (3 * a)), some (0, 1 + (3 * b)), some (0, k), none, none, none] m (d + 1) K := by
    refine z_up (fun k h1 h2 ih hz => ?_)
    have hz' : ¬ (z_di s a k = 1 ∧ z_di s k b = 1) → ∀ t, 0 ≤ t → t < k + 1 → ¬ (z_di s a t = 1 ∧ z_di s t b = 1) := fun h t h3 h4 => by
      by_cases q : t = k
      · subst q
        exact h
      · exact hz t h3 (by omega)
    refine V_X12_hasBetween_2 ?_
    rw [h.1]
    refine ⟨fun q1 => hno (fun ⟨t, h3, h4, h5, h6⟩ => hz t h3 (by omega) ⟨h5, h6⟩), fun hk => ?_⟩
    have step : ∀ c t1 t2, 0 ≤ c → c < 3 → 0 ≤ t1 → t1 ≤ 12 → 0 ≤ t2 → t2 ≤ 12 → z_ri m_X12_hasBetween 21 [some (2, 113), some (0, 1 + (3 * a)), some (0, 1 + (3 * b)), some (0, k), some (0, t1 + z_ap s k a c), some (0, t2 + z_ap s k b c), some (0, c + 1)] m (d + 1) K → z_ri m_X12_hasBetween 21 [some (2, 113), some (0, 1 + (3 * a)), some (0, 1 + (3 * b)), some (0, k), some (0, t1), some (0, t2), some (0, c)] m (d + 1) K := fun c t1 t2 c1 c2 b1 b2 b3 b4 hh => by
      obtain ⟨e1, r1, r2⟩ := h.2.2.2 a c ha.1 ha.2 c1 c2
      obtain ⟨e2, r3, r4⟩ := h.2.2.2 b c hb.1 hb.2 c1 c2
      obtain ⟨e3, r5, r6⟩ := h.2.2.2 k c h1 hk c1 c2
      refine V_X12_hasBetween_21 ?_
      rw [e1, e2, e3]
      unfold z_ap zab at hh
      refine ⟨fun q1 => ⟨fun q2 => ⟨⟨by omega, by omega⟩, ?_⟩, fun q3 => ⟨fun q4 => ⟨⟨by omega, by omega⟩, ?_⟩, fun q5 => ?_⟩⟩, fun q6 => ⟨⟨by omega, by omega⟩, ⟨by omega, by omega⟩, ⟨by omega, by omega⟩, ⟨by omega, by omega⟩, ⟨by omega, by omega⟩, ⟨by omega, by omega⟩, ⟨by omega, by omega⟩, ⟨by omega, by omega⟩, ⟨by omega, by omega⟩, ⟨by omega, by omega⟩, ⟨by omega, by omega⟩, ⟨by omega, by omega⟩, ⟨by omega, by omega⟩, ⟨by omega, by omega⟩, ⟨by omega, by omega⟩, ⟨by omega, by omega⟩, ⟨by omega, by omega⟩, ⟨by omega, by omega⟩, ⟨by omega, by omega⟩, ?_⟩⟩
      all_goals first | exact hh | omega
    have r0 := zHs_r (c := 0) h ⟨h1, hk⟩ ha (by omega)
    have r1 := zHs_r (c := 0 + 1) h ⟨h1, hk⟩ ha (by omega)
    have r2 := zHs_r (c := 0 + 1 + 1) h ⟨h1, hk⟩ ha (by omega)
    have r3 := zHs_r (c := 0) h ⟨h1, hk⟩ hb (by omega)
    have r4 := zHs_r (c := 0 + 1) h ⟨h1, hk⟩ hb (by omega)
    have r5 := zHs_r (c := 0 + 1 + 1) h ⟨h1, hk⟩ hb (by omega)
    have ea : z_di s a k = z_ap s k a 0 + z_ap s k a (0 + 1) + z_ap s k a (0 + 1 + 1) := z_di_c
    have eb : z_di s k b = z_ap s k b 0 + z_ap s k b (0 + 1) + z_ap s k b (0 + 1 + 1) := rfl
    refine step 0 0 0 (by omega) (by omega) (by omega) (by omega) (by omega) (by omega) (step (0 + 1) _ _ (by omega) (by omega) (by omega) (by omega) (by omega) (by omega) (step (0 + 1 + 1) _ _ (by omega) (by omega) (by omega) (by omega) (by omega) (by omega) ?_))
    refine V_X12_hasBetween_21 ⟨fun _ => ⟨fun q => ⟨⟨by omega, by omega⟩, ih hk (hz' (fun x => q (by omega)))⟩, fun q => ⟨fun q' => ⟨⟨by omega, by omega⟩, ih hk (hz' (fun x => q' (by omega)))⟩, fun q' => hy ⟨k, h1, hk, by omega, by omega⟩⟩⟩, fun q => by omega⟩
  exact V_X12_hasBetween (key 0 (by omega) h.2.1 (fun t h1 h2 => by omega))
theorem e12_isSolid (h : zHs m n s) (hy : zc_so s n → K 1 m) (hno : ¬ zc_so s n → K 0 m) : z_ci m_X12_isSolid [(2, 113)] m (d + 2) K := by
  have h7 := h.2.2.1
  have key : ∀ k, 0 ≤ k → k ≤ n → (∀ a b, 0 ≤ b → b < a → a < k → zc_sk s a b → zc_th s n a b) → z_ri m_X12_isSolid 2 [some (2, 113), some (0, k), none] m (d + 2) K := by
    refine z_up (fun k h1 h2 ih hz => ?_)
    have key2 : k < n → ∀ j, 0 ≤ j → j ≤ k → (∀ b, 0 ≤ b → b < j → zc_sk s k b → zc_th s n k b) → z_ri m_X12_isSolid 14 [some (2, 113), some (0, k), some (0, j)] m (d + 2) K := by
      intro hk
      refine z_up (fun j h3 h4 ih2 hj => ?_)
      have hj' : (zc_sk s k j → zc_th s n k j) → ∀ b, 0 ≤ b → b < j + 1 → zc_sk s k b → zc_th s n k b := fun h b h5 h6 => by
        by_cases q : b = j
        · subst q
          exact h
        · exact hj b h5 (by omega)
      refine V_X12_isSolid_14 ⟨fun q1 => ⟨⟨by omega, by omega⟩, ?_⟩, fun q2 => ⟨⟨by omega, by omega⟩, ⟨by omega, by omega⟩, ⟨by omega, by omega⟩, ⟨by omega, by omega⟩, ?_⟩⟩
      · refine ih hk (fun a b h5 h6 h7 => ?_)
        by_cases q : a = k
        · subst q
          exact hj b h5 (by omega)
        · exact hz a b h5 h6 (by omega)
      · refine e12_areAskew h (by omega) (by omega) (fun r1 => zy1' ⟨⟨by omega, by omega⟩, ⟨by omega, by omega⟩, ⟨by omega, by omega⟩, ⟨by omega, by omega⟩, ?_⟩) (fun r1 => zy0' ⟨⟨by omega, by omega⟩, ih2 q2 (hj' (fun h => absurd h r1))⟩)
        refine e12_hasBetween h (by omega) (by omega) (fun r2 => zy1 ⟨⟨by omega, by omega⟩, ih2 q2 (hj' (fun _ => r2))⟩) (fun r2 => zy0 (hno (fun h => r2 (h k j h3 q2 hk r1))))
    refine V_X12_isSolid_2 ?_
    rw [h.1]
    refine ⟨fun q1 => hy (fun a b h3 h4 h5 => hz a b h3 h4 (by omega)), fun q2 => key2 q2 0 (by omega) (by omega) (fun b h3 h4 => by omega)⟩
  exact V_X12_isSolid (key 0 (by omega) h.2.1 (fun a b h3 h4 h5 => by omega))
end PF

/-! the reference's reader: numbers, cubes -/
section PE
variable {μ0 m : z_Mem} {T : Int → Int} {L p f n j : Int} {s : Int → Int} {d : Nat} {K : Int → z_Mem → Prop} {Kn : z_Mem → Prop}
theorem e12_number (hB : zB μ0 T L) (hTb : ∀ i, 0 ≤ i → i < L → 0 ≤ T i ∧ T i ≤ 255) (h : zH μ0 m p (-1) n j s) (hp : 0 ≤ p ∧ p ≤ L) {b e v : Int} (hb : zr (zb_sp T) L p = b) (he : zr (zb_di T) L b = e) (hv : zv T e b 0 = v) (h1 : e = b → ∀ m', zH μ0 m' b (8 * b + 1) n j s → K 0 m') (h2 : b < e → 6 < v → ∀ x m', zH μ0 m' e (8 * b + 2) n j s → 0 ≤ x → x ≤ 1000 → K x m') (h3 : b < e → 0 ≤ v → v ≤ 6 → ∀ m', zH μ0 m' e (-1) n j s → m' 113 11 = b → K v m') : z_ci m_X12_number [(2, 113)] m (d + 2) K := by
  have hL := hB.2.2
  have hbL := zr_le (P := zb_sp T) (L := L) (p := p) hp.2
  rw [hb] at hbL
  have heL := zr_le (P := zb_di T) (L := L) (p := b) hbL.2
  rw [he] at heL
  refine V_X12_number (e_isRight (fun _ => zy1' (e12_next hB h hp (fun x m' hm hx1 hx2 _ => ?_))) (fun x => absurd h.2.2.2.1 x))
  rw [hb] at hm hx1 hx2
  have e9 := hm.2.2.1
  by_cases hd : b < L ∧ 48 ≤ T b ∧ T b ≤ 57
  · have ex := hx1 hd.1
    have hbe : b < e := by
      rw [zr_y hd.1 (by unfold zb_di; rw [decide_eq_true_eq]; exact hd.2)] at he
      have := (zr_le (P := zb_di T) (L := L) (p := b + 1) (by omega)).1
      omega
    refine e_in (fun q => absurd q (by omega)) (fun _ => zy1 ?_)
    rw [e9]
    have key : ∀ k, b ≤ k → k ≤ L → ∀ m' w x, zH μ0 m' k (-1) n j s → m' 113 11 = b → zr (zb_di T) L k = e → zv T e k w = v → 0 ≤ w → x = min w 1000 → z_ri m_X12_number 45 [some (2, 113), some (0, x)] m' (d + 2) K := by
      refine z_up (fun k k1 k2 ih m' w x hm h11 hke hvk hw hx => ?_)
      have e9 := hm.2.2.1
      have fin : e = k → (x ≤ 6 → K x m') ∧ (6 < x → z_cn m_X12_fails [(2, 113), (0, 2), (0, m' 113 11)] m' (d + 1) (fun m11 => K x m11)) := fun ek => by
        rw [ek, zv_no (Int.le_refl k)] at hvk
        refine ⟨fun q => ?_, fun q => ?_⟩
        · obtain rfl : x = v := by omega
          exact h3 hbe (by omega) q m' (by rw [ek]; exact hm) h11
        · rw [h11]
          exact e12_fails hm (by omega) (by omega) (fun hF => h2 hbe (by omega) x _ (by rw [ek]; exact hF) (by omega) (by omega))
      refine V_X12_number_45 (e12_sign hB hm (by omega) (fun q => ?_) (fun q => ?_))
      · exact e_in (fun _ => ⟨fun _ => fin (by rw [← hke]; exact zr_no (by omega)), fun r => absurd rfl r⟩) (fun r => by omega)
      · refine e_in (fun r => ⟨fun _ => fin (by rw [← hke]; exact zr_no (by unfold zb_di; rw [decide_eq_true_eq]; exact fun y => r y.2)), fun y => absurd rfl y⟩) (fun r => ⟨fun y => absurd y (by decide), fun _ => ⟨⟨by omega, by omega⟩, ?_⟩⟩)
        have hdk : zb_di T k = true := by unfold zb_di; rw [decide_eq_true_eq]; exact r
        have ez := zr_y (P := zb_di T) q hdk
        have ek : k < e := by
          rw [← hke, ez]
          have := (zr_le (P := zb_di T) (L := L) (p := k + 1) (by omega)).1
          omega
        refine e12_sign hB hm (by omega) (fun y => by omega) (fun _ => ⟨⟨by omega, by omega⟩, ⟨by omega, by omega⟩, ⟨by omega, by omega⟩, ?_⟩)
        rw [e9]
        refine ih q _ (10 * w + T k - 48) _ (zH_at hm (k + 1)) (by rw [z_st_ni (by decide)]; exact h11) (by rw [← hke]; exact ez.symm) (by rw [← hvk]; exact (zv_y ek).symm) (by omega) (by omega)
    exact key b (Int.le_refl b) hbL.2 _ 0 0 (zH_na hm b) z_st_eq he hv (by omega) (by omega)
  · have ee : e = b := by
      rw [← he]
      exact zr_no (by unfold zb_di; rw [decide_eq_true_eq]; exact hd)
    refine e_in (fun _ => zy0 ?_) (fun q => ?_)
    · rw [e9]
      exact e12_fails hm (by omega) (by omega) (fun hF => h1 ee _ hF)
    · by_cases r : b < L
      · have := hx1 r
        omega
      · have := hx2 (by omega)
        omega
theorem e12_canStand (h : zH μ0 m p f n (3 * n + 3) s) (hn : 0 ≤ n ∧ n < 7) (hy : zc_st s n → K 1 m) (hno : ¬ zc_st s n → K 0 m) : z_ci m_X12_canStand [(2, 113), (0, n)] m (d + 1) K := by
  have hs : ∀ a c, 0 ≤ a → a ≤ n → 0 ≤ c → c < 3 → m 115 (1 + 3 * a + c) = s (3 * a + c) ∧ 0 ≤ s (3 * a + c) ∧ s (3 * a + c) ≤ 6 := fun a c h1 h2 h3 h4 => by
    have e := h.2.2.2.2.2.1 (3 * a + c) (by omega) (by omega)
    have r := h.2.2.2.2.2.2.1 (3 * a + c) (by omega) (by omega)
    refine ⟨?_, r⟩
    rw [← e]
    show _ = m 115 (1 + (3 * a + c))
    rw [show 1 + 3 * a + c = 1 + (3 * a + c) by omega]
  have key : ∀ k, 0 ≤ k → k ≤ n → ∀ v, (∀ o, 0 ≤ o → o < k → z_di s n o ≠ 0) → (v = 0 ∧ ¬ (n = 0 ∨ ∃ o, 0 ≤ o ∧ o < k ∧ z_di s n o = 1)) ∨ (v = 1 ∧ (n = 0 ∨ ∃ o, 0 ≤ o ∧ o < k ∧ z_di s n o = 1)) → z_ri m_X12_canStand 12 [some (2, 113), some (0, n), some (0, v), some (0, k), none, none] m (d + 1) K := by
    refine z_up (fun k h1 h2 ih v hz hv => ?_)
    refine V_X12_canStand_12 ⟨fun q1 => ⟨by omega, ?_⟩, fun hk => ?_⟩
    · obtain rfl : k = n := by omega
      rcases hv with ⟨rfl, hv⟩ | ⟨rfl, hv⟩
      · exact hno (fun h => hv h.2)
      · exact hy ⟨hz, hv⟩
    · have hz' : z_di s n k ≠ 0 → ∀ o, 0 ≤ o → o < k + 1 → z_di s n o ≠ 0 := fun h o h3 h4 => by
        by_cases q : o = k
        · subst q
          exact h
        · exact hz o h3 (by omega)
      have step : ∀ c t, 0 ≤ c → c < 3 → 0 ≤ t → t ≤ 12 → z_ri m_X12_canStand 23 [some (2, 113), some (0, n), some (0, v), some (0, k), some (0, t + z_ap s n k c), some (0, c + 1)] m (d + 1) K → z_ri m_X12_canStand 23 [some (2, 113), some (0, n), some (0, v), some (0, k), some (0, t), some (0, c)] m (d + 1) K := fun c t c1 c2 t1 t2 hh => by
        obtain ⟨e1, r1, r2⟩ := hs n c hn.1 (by omega) c1 c2
        obtain ⟨e2, r3, r4⟩ := hs k c h1 (by omega) c1 c2
        refine V_X12_canStand_23 ?_
        rw [e1, e2]
        unfold z_ap zab at hh
        refine ⟨fun q => by omega, fun _ => ⟨⟨by omega, by omega⟩, ⟨by omega, by omega⟩, ⟨by omega, by omega⟩, ⟨by omega, by omega⟩, ⟨by omega, by omega⟩, ⟨by omega, by omega⟩, ⟨by omega, by omega⟩, ⟨by omega, by omega⟩, ⟨by omega, by omega⟩, ⟨by omega, by omega⟩, ⟨by omega, by omega⟩, ⟨by omega, by omega⟩, hh⟩⟩
      have r0 := z_ap_r (c := 0) h.2.2.2.2.2.2.1 hn.1 h1 (by omega) (by omega)
      have r1 := z_ap_r (c := 0 + 1) h.2.2.2.2.2.2.1 hn.1 h1 (by omega) (by omega)
      have r2 := z_ap_r (c := 0 + 1 + 1) h.2.2.2.2.2.2.1 hn.1 h1 (by omega) (by omega)
      refine step 0 0 (by omega) (by omega) (by omega) (by omega) (step (0 + 1) _ (by omega) (by omega) (by omega) (by omega) (step (0 + 1 + 1) _ (by omega) (by omega) (by omega) (by omega) ?_))
      have ed : 0 + z_ap s n k 0 + z_ap s n k (0 + 1) + z_ap s n k (0 + 1 + 1) = z_di s n k := by
        unfold z_di
        rw [Int.zero_add]
        rfl
      rw [ed]
      refine V_X12_canStand_23 ⟨fun _ => ⟨fun q1 => ⟨fun q2 => ⟨⟨by omega, by omega⟩, ?_⟩, fun q2 => ⟨fun q3 => ⟨⟨by omega, by omega⟩, ?_⟩, fun q3 => ⟨⟨by omega, by omega⟩, ?_⟩⟩⟩, fun q1 => ?_⟩, fun q => by omega⟩
      · refine ih hk 1 (hz' q1) (Or.inr ⟨rfl, ?_⟩)
        rcases hv with ⟨h, _⟩ | ⟨_, h⟩
        · exact absurd h q2
        · exact h.imp id (fun ⟨o, a, b, c⟩ => ⟨o, a, by omega, c⟩)
      · refine ih hk 0 (hz' q1) (Or.inl ⟨rfl, fun h => ?_⟩)
        rcases hv with ⟨_, hv⟩ | ⟨h', _⟩
        · rcases h with h | ⟨o, a, b, c⟩
          · exact hv (Or.inl h)
          · refine hv (Or.inr ⟨o, a, ?_, c⟩)
            rcases (by omega : o < k ∨ o = k) with h | rfl
            · exact h
            · exact absurd c q3
        · omega
      · exact ih hk 1 (hz' q1) (Or.inr ⟨rfl, Or.inr ⟨k, h1, by omega, q3⟩⟩)
      · exact hno (fun h => h.1 k h1 hk q1)
  refine V_X12_canStand ⟨fun q1 => ?_, fun q2 => ?_⟩
  · exact key 0 (by omega) (by omega) 0 (fun o h1 h2 => by omega) (Or.inl ⟨rfl, fun h => by rcases h with h | ⟨o, h3, h4, _⟩ <;> omega⟩)
  · exact key 0 (by omega) (by omega) 1 (fun o h1 h2 => by omega) (Or.inr ⟨rfl, Or.inl q2⟩)
end PE

/-! FACES: the reference -/
section FB
variable {n : Int} {s : Int → Int} {μ0 : z_Mem} {d : Nat} {Kn : z_Mem → Prop}
def zMF (μ0 m : z_Mem) (s : Int → Int) (n : Int) (j : Nat) : Prop := (∀ o i, ¬ (o = 113 ∧ i = 21) → o ≠ 121 → o ≠ 122 → m o i = μ0 o i) ∧ m 113 21 = zN j (zfr s n) ∧ zFa s n j (m 121) (m 122)
theorem zMF_no {m : z_Mem} {j : Nat} (h : zMF μ0 m s n j) (hf : zfr s n j = false) : zMF μ0 m s n (j + 1) := by
  obtain ⟨h1, h2, h3⟩ := h
  refine ⟨h1, ?_, zFa_st h3 hf⟩
  rw [h2, zN_s, zi_f hf]
  omega
theorem zMF_yes {m : z_Mem} {j : Nat} {f c e : Int} (h : zMF μ0 m s n j) (hf : zfr s n j = true) (ef : f = zN j (zfr s n)) (ec : c = (j : Int) / 6) (ee : e = (j : Int) % 6) : zMF μ0 (z_st (z_st (z_st m 121 f c) 122 f e) 113 21 (f + 1)) s n (j + 1) := by
  obtain ⟨h1, h2, h3⟩ := h
  subst ef ec ee
  refine ⟨fun o i a b c => by rw [z_st_nx a, z_st_ne c, z_st_ne b]; exact h1 o i a b c, ?_, ?_⟩
  · rw [z_st_eq, zN_s, zi_t hf]
  · have e9 : z_st (z_st (z_st m 121 (zN j (zfr s n)) ((j : Int) / 6)) 122 (zN j (zfr s n)) ((j : Int) % 6)) 113 21 (zN j (zfr s n) + 1) 121 = zs_up (m 121) (zN j (zfr s n)) ((j : Int) / 6) := funext fun i => by
      rw [z_st_ne (by decide), z_st_ne (by decide)]
      unfold zs_up
      by_cases q : i = zN j (zfr s n)
      · rw [if_pos q, q, z_st_eq]
      · rw [if_neg q, z_st_ni q]
    have e10 : z_st (z_st (z_st m 121 (zN j (zfr s n)) ((j : Int) / 6)) 122 (zN j (zfr s n)) ((j : Int) % 6)) 113 21 (zN j (zfr s n) + 1) 122 = zs_up (m 122) (zN j (zfr s n)) ((j : Int) % 6) := funext fun i => by
      rw [z_st_ne (by decide)]
      unfold zs_up
      by_cases q : i = zN j (zfr s n)
      · rw [if_pos q, q, z_st_eq]
      · rw [if_neg q, z_st_ni q, z_st_ne (by decide)]
    rw [e9, e10]
    exact zFa_up h3 hf
theorem zMF_Ns {m : z_Mem} {j : Nat} (h : zMF μ0 m s n j) (hN : zNs μ0 n s) : zNs m n s := by
  obtain ⟨a1, a2, a3, a4, a5⟩ := hN
  have e : ∀ i, m 114 i = μ0 114 i := fun i => h.1 114 i (by omega) (by decide) (by decide)
  exact ⟨by rw [e]; exact a1, a2, a3, fun i b1 b2 => by rw [e]; exact a4 i b1 b2, a5⟩
theorem e12_faces (hN : zNs μ0 n s) (hF : zN (6 * n.toNat) (zfr s n) ≤ 30) (hk : ∀ m, zMF μ0 m s n (6 * n.toNat) → z_rn m_X12_laysSkin 80 [some (2, 113), some (0, 0), none] m (d + 1) Kn) : z_cn m_X12_laysSkin [(2, 113)] μ0 (d + 1) Kn := by
  have hn := hN.2.1
  have key : ∀ c, 0 ≤ c → c ≤ n → ∀ m, zMF μ0 m s n (6 * c.toNat) → z_rn m_X12_laysSkin 7 [some (2, 113), some (0, c), none] m (d + 1) Kn := by
    refine z_up (fun c c1 c2 ih m hm => ?_)
    refine V_X12_laysSkin_7 ?_
    rw [(zMF_Ns hm hN).1]
    refine ⟨fun q => ?_, fun q => ?_⟩
    · obtain rfl : c = n := by omega
      exact hk m hm
    · have key2 : ∀ t, 0 ≤ t → t ≤ 6 → ∀ m, zMF μ0 m s n (6 * c.toNat + t.toNat) → z_rn m_X12_laysSkin 19 [some (2, 113), some (0, c), some (0, t)] m (d + 1) Kn := by
        refine z_up (fun t t1 t2 ih2 m hm => ?_)
        have hn7 := hN.2.2.1
        refine V_X12_laysSkin_19 ⟨fun q1 => ⟨⟨by omega, by omega⟩, ih q m ?_⟩, fun q1 => ?_⟩
        · rw [show 6 * (c + 1).toNat = 6 * c.toNat + t.toNat by omega]
          exact hm
        · have ed : ((6 * c.toNat + t.toNat : Nat) : Int) / 6 = c := by omega
          have em : ((6 * c.toNat + t.toNat : Nat) : Int) % 6 = t := by omega
          have en := zN_mono (P := zfr s n) (n := 6 * c.toNat + t.toNat + 1) (k := 6 * n.toNat) (by omega)
          have ea := (zN_r (P := zfr s n) (6 * c.toNat + t.toNat)).1
          have fr : zfr s n ((6 * c.toNat + t.toNat : Nat) : Int) = decide (zk s n c t (-1) = -1) := by unfold zfr; rw [ed, em]
          refine e12_cubeAt (zMF_Ns hm hN) ⟨c1, q⟩ (by omega) (by omega) ⟨fun r => ⟨⟨by omega, by omega⟩, ?_⟩, fun r => ?_⟩
          · have hf : zfr s n ((6 * c.toNat + t.toNat : Nat) : Int) = false := by rw [fr]; exact decide_eq_false r
            refine ih2 q1 _ ?_
            rw [show 6 * c.toNat + (t + 1).toNat = 6 * c.toNat + t.toNat + 1 by omega]
            exact zMF_no hm hf
          · have hf : zfr s n ((6 * c.toNat + t.toNat : Nat) : Int) = true := by rw [fr]; exact decide_eq_true r
            rw [zN_s, zi_t hf] at en
            have u1 : ∀ (m : z_Mem) (i v : Int), z_st m 121 i v 113 21 = m 113 21 := fun m i v => z_st_ne (by decide)
            have u2 : ∀ (m : z_Mem) (i v : Int), z_st m 122 i v 113 21 = m 113 21 := fun m i v => z_st_ne (by decide)
            simp only [u1, u2, hm.2.1]
            refine ⟨⟨by omega, by omega⟩, ⟨by omega, by omega⟩, ⟨by omega, by omega⟩, ⟨by omega, by omega⟩, ih2 q1 _ ?_⟩
            rw [show 6 * c.toNat + (t + 1).toNat = 6 * c.toNat + t.toNat + 1 by omega]
            exact zMF_yes hm hf rfl ed.symm em.symm
      exact key2 0 (by omega) (by omega) m (by simpa using hm)
  refine V_X12_laysSkin (key 0 (by omega) hn _ ?_)
  exact ⟨fun o i a b c => z_st_nx a, z_st_eq, fun i hi => by omega⟩
end FB

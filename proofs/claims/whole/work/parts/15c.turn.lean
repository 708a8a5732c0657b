/-! THE OUTLINE: the class turns -/
section CT
variable {a f x y : Int} {n k : Nat} {p : zP} {μ μ0 : z_Mem} {d : Nat} {K : Int → z_Mem → Prop} {Kn : z_Mem → Prop}
theorem zand4 (ha : 0 ≤ a ∧ a < 8) : ((((a : Int).toNat &&& (4 : Int).toNat : Nat)) : Int) = 0 ↔ a ≤ 3 := by
  rcases (by omega : a = 0 ∨ a = 1 ∨ a = 2 ∨ a = 3 ∨ a = 4 ∨ a = 5 ∨ a = 6 ∨ a = 7) with w | w | w | w | w | w | w | w <;> (rw [w]; decide)
theorem e_turn (hv : zV p) (hw : zWo p) (ha : 0 ≤ a ∧ a < 8) (h75 : μ 75 0 = pF p) (hq : zQC μ p) (hk : ∀ m, (∀ o i, o ≠ 77 → o ≠ 78 → o ≠ 79 → m o i = μ o i) → (∀ j, 0 ≤ j → j < pF p → m 77 j = zcl p a j) → Kn m) : z_cn m_X8_turn [(2, 75), (2, 23), (0, a)] μ (d + 1) Kn := by
  have F0 : 0 ≤ pF p ∧ pF p ≤ 30 := (zV_sk hv).1
  have F1 := hw.1
  refine V_X8_turn ?_
  have rX := zmi_r (g := ztX p a) 30 (by omega) (pF p).toNat (fun i i0 i1 => (zt_r hv hw ha.1 ⟨i0, by omega⟩).1)
  have rY := zmi_r (g := ztY p a) 30 (by omega) (pF p).toNat (fun i i0 i1 => (zt_r hv hw ha.1 ⟨i0, by omega⟩).2)
  have two : ∀ f, 0 ≤ f → f ≤ pF p → ∀ m : z_Mem, (∀ o i, o ≠ 77 → o ≠ 78 → o ≠ 79 → m o i = μ o i) → (∀ j, 0 ≤ j → j < pF p → m 78 j = ztX p a j ∧ m 79 j = ztY p a j) → (∀ j, 0 ≤ j → j < f → m 77 j = zcl p a j) → z_rn m_X8_turn 145 [some (2, 75), none, none, some (0, zmi 30 (pF p).toNat (ztX p a)), some (0, zmi 30 (pF p).toNat (ztY p a)), some (0, f), none, none] m (d + 1) Kn := by
    refine z_up (fun f f0 f1 ih m hf hxy hm => V_X8_turn_145 ?_)
    rw [hf 75 0 (by decide) (by decide) (by decide), h75]
    refine ⟨fun q => ?_, fun q => ?_⟩
    · obtain rfl : f = pF p := by omega
      exact hk m hf hm
    · obtain ⟨p1, p2⟩ := hxy f f0 q
      have tr := zt_r hv hw ha.1 ⟨f0, q⟩
      rw [p1, p2]
      refine ⟨(by first | omega | exact ⟨by omega, by omega⟩), (by first | omega | exact ⟨by omega, by omega⟩), (by first | omega | exact ⟨by omega, by omega⟩), (by first | omega | exact ⟨by omega, by omega⟩), (by first | omega | exact ⟨by omega, by omega⟩), (by first | omega | exact ⟨by omega, by omega⟩), (by first | omega | exact ⟨by omega, by omega⟩), (by first | omega | exact ⟨by omega, by omega⟩), ?_⟩
      refine ih q _ (fun o i h1 h2 h3 => by rw [z_st_ne h1]; exact hf o i h1 h2 h3) (fun j j0 j1 => by rw [z_st_ne (by decide), z_st_ne (by decide)]; exact hxy j j0 j1) (fun j j0 j1 => ?_)
      by_cases w : j = f
      · rw [w, z_st_eq]
        rfl
      · rw [z_st_ni w]
        exact hm j j0 (by omega)
  have one : ∀ f, 0 ≤ f → f ≤ pF p → ∀ m : z_Mem, (∀ o i, o ≠ 77 → o ≠ 78 → o ≠ 79 → m o i = μ o i) → (∀ j, 0 ≤ j → j < f → m 78 j = ztX p a j ∧ m 79 j = ztY p a j) → z_rn m_X8_turn 10 [some (2, 75), some (2, 23), some (0, a), some (0, zmi 30 f.toNat (ztX p a)), some (0, zmi 30 f.toNat (ztY p a)), some (0, f), none, none] m (d + 1) Kn := by
    refine z_up (fun f f0 f1 ih m hf hm => V_X8_turn_10 ?_)
    rw [hf 75 0 (by decide) (by decide) (by decide), h75]
    refine ⟨fun q => ?_, fun q => ?_⟩
    · obtain rfl : f = pF p := by omega
      exact two 0 (by omega) (by omega) m hf hm (fun j j0 j1 => by omega)
    · have pl := zPl_w hw hv ⟨f0, q⟩
      obtain ⟨b1, b2, _⟩ := zpo_b hv pl
      obtain ⟨p1, p2, _⟩ := hq.2.2 f pl
      rw [hf 24 f (by decide) (by decide) (by decide), hf 25 f (by decide) (by decide) (by decide), p1, p2]
      obtain ⟨t1, t2⟩ := zS1 (w := a % 4) (by omega)
      rw [t1, t2, zand4 ha]
      have sx := zsx_r (a % 4)
      have sy := zsy_r (a % 4)
      have m1 := zmul_b (x := zX p f) (c := zsx (a % 4)) (by omega) sx
      have m2 := zmul_b (x := zX p f) (c := zsy (a % 4)) (by omega) sy
      have m3 := zmul_b (x := zY p f) (c := zsx (a % 4)) (by omega) sx
      have m4 := zmul_b (x := zY p f) (c := zsy (a % 4)) (by omega) sy
      have m5 := zmul_b (x := -zX p f) (c := zsx (a % 4)) (by omega) sx
      have m6 := zmul_b (x := -zX p f) (c := zsy (a % 4)) (by omega) sy
      have nx : ∀ X Y, X = ztX p a f → Y = ztY p a f → z_rn m_X8_turn 10 [some (2, 75), some (2, 23), some (0, a), some (0, min (zmi 30 f.toNat (ztX p a)) (z_st (z_st m 78 f X) 79 f Y 78 f)), some (0, min (zmi 30 f.toNat (ztY p a)) (z_st (z_st m 78 f X) 79 f Y 79 f)), some (0, f + 1), none, none] (z_st (z_st m 78 f X) 79 f Y) (d + 1) Kn := fun X Y hX hY => by
        subst hX hY
        rw [z_st_eq, z_st_ne (by decide), z_st_eq]
        have nx := ih q (z_st (z_st m 78 f (ztX p a f)) 79 f (ztY p a f)) (fun o i h1 h2 h3 => by rw [z_st_ne h3, z_st_ne h2]; exact hf o i h1 h2 h3) (fun j j0 j1 => by
          by_cases w : j = f
          · rw [w, z_st_ne (by decide), z_st_eq, z_st_eq]
            exact ⟨rfl, rfl⟩
          · rw [z_st_ne (by decide), z_st_ni w, z_st_ni w, z_st_ne (by decide)]
            exact hm j j0 (by omega))
        rw [show (f + 1).toNat = f.toNat + 1 by omega] at nx
        have e1 : ∀ g : Int → Int, zmi 30 (f.toNat + 1) g = min (zmi 30 f.toNat g) (g f) := fun g => by
          show min (zmi 30 f.toNat g) (g (f.toNat : Nat)) = _
          rw [show ((f.toNat : Nat) : Int) = f by omega]
        rw [e1, e1] at nx
        exact nx
      refine ⟨(by first | omega | exact ⟨by omega, by omega⟩), fun l => ?_, fun l => ?_⟩
      · refine ⟨(by first | omega | exact ⟨by omega, by omega⟩), (by first | omega | exact ⟨by omega, by omega⟩), (by first | omega | exact ⟨by omega, by omega⟩), (by first | omega | exact ⟨by omega, by omega⟩), ⟨by omega, by omega⟩, (by first | omega | exact ⟨by omega, by omega⟩), ⟨by omega, by omega⟩, ⟨by omega, by omega⟩, (by first | omega | exact ⟨by omega, by omega⟩), (by first | omega | exact ⟨by omega, by omega⟩), ⟨by omega, by omega⟩, (by first | omega | exact ⟨by omega, by omega⟩), ⟨by omega, by omega⟩, ⟨by omega, by omega⟩, (by first | omega | exact ⟨by omega, by omega⟩), (by first | omega | exact ⟨by omega, by omega⟩), (by first | omega | exact ⟨by omega, by omega⟩), (by first | omega | exact ⟨by omega, by omega⟩), ?_⟩
        exact nx _ _ (by unfold ztX; rw [if_neg l]) (by unfold ztY; rw [if_neg l])
      · refine ⟨(by first | omega | exact ⟨by omega, by omega⟩), (by first | omega | exact ⟨by omega, by omega⟩), (by first | omega | exact ⟨by omega, by omega⟩), ⟨by omega, by omega⟩, (by first | omega | exact ⟨by omega, by omega⟩), ⟨by omega, by omega⟩, ⟨by omega, by omega⟩, (by first | omega | exact ⟨by omega, by omega⟩), (by first | omega | exact ⟨by omega, by omega⟩), ⟨by omega, by omega⟩, (by first | omega | exact ⟨by omega, by omega⟩), ⟨by omega, by omega⟩, ⟨by omega, by omega⟩, (by first | omega | exact ⟨by omega, by omega⟩), (by first | omega | exact ⟨by omega, by omega⟩), (by first | omega | exact ⟨by omega, by omega⟩), (by first | omega | exact ⟨by omega, by omega⟩), ?_⟩
        exact nx _ _ (by unfold ztX; rw [if_pos l]) (by unfold ztY; rw [if_pos l])
  exact one 0 (by omega) (by omega) μ (fun _ _ _ _ _ => rfl) (fun j j0 j1 => by omega)
end CT

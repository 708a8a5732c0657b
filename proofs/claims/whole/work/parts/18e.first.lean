/-! AT FIRST -/
set_option maxRecDepth 100000 in
theorem z_mu0_v : (z_mu0 6 0 = 0 ∧ z_mu0 6 2 = 0 ∧ z_mu0 6 8 = 0 ∧ z_mu0 6 11 = 0 ∧ z_mu0 21 0 = 0 ∧ z_mu0 21 1 = 0 ∧ z_mu0 23 5 = 0 ∧ z_mu0 23 6 = 0 ∧ z_mu0 114 0 = 0 ∧ z_mu0 113 21 = 0 ∧ z_mu0 113 22 = 0 ∧ z_mu0 113 23 = 0 ∧ z_mu0 114 22 = 0 ∧ z_mu0 80 0 = 0 ∧ z_mu0 80 1 = 0 ∧ z_mu0 113 6 = 0 ∧ z_mu0 29 0 = 0 ∧ z_mu0 39 0 = 0 ∧ z_mu0 44 0 = 0) ∧ (z_mu0 1 1 = 0 ∧ z_mu0 113 8 = 0 ∧ z_mu0 103 0 = 0 ∧ z_mu0 108 0 = 0 ∧ z_mu0 119 0 = 0 ∧ z_mu0 119 1 = 0) ∧ ∀ e : Nat, e < 60 → z_mu0 22 e = 0 ∧ z_mu0 114 (23 + e) = 0 ∧ z_mu0 114 (83 + e) = 1 := by decide +kernel
theorem zV_e0 {s W : Int → Int} (hW : ∀ e, 0 ≤ W e ∧ W e ≤ 9) : zV (0, s, fun _ => false, 0, W) := by
  refine ⟨⟨Int.le_refl _, (by decide : (0 : Int) ≤ 7)⟩, fun i i0 i1 => ?_, zSt_0, zFo_0 (fun _ => rfl), fun _ _ => rfl, Or.inl ⟨rfl, rfl⟩, fun e _ _ => hW e⟩
  have : i < 3 * 0 := i1
  omega
theorem z_Inv0 : z_Inv z_mu0 := by
  obtain ⟨⟨a1, a2, a3, a4, a5, a6, a7, a8, a9, a10, a11, a12, a13, a14, a15, a16, a17, a18, a19⟩, ⟨b1, b2, b3, b4, b5, b6⟩, w⟩ := z_mu0_v
  have w' : ∀ e : Int, 0 ≤ e → e < 60 → z_mu0 22 e = 0 ∧ z_mu0 114 (23 + e) = 0 ∧ z_mu0 114 (83 + e) = 1 := fun e e0 e1 => by
    have := w e.toNat (by omega)
    rw [show ((e.toNat : Nat) : Int) = e by omega] at this
    exact this
  generalize z_mu0 = μ at *
  have F : ∀ s : Int → Int, zFs s 0 = 0 := fun s => rfl
  have Vs : ∀ s : Int → Int, zVs s 0 = 0 := fun s => rfl
  refine ⟨(0, μ 7, fun _ => false, 0, fun _ => 0), fun _ => 1, 0, fun _ => (0, μ 7, fun _ => false, 0, fun _ => 0), zV_e0 (fun _ => by decide), Or.inl rfl, zV_e0 (fun _ => by decide), ⟨⟨⟨a1, rfl, ?_, ⟨Int.le_refl _, (by decide : (0 : Int) ≤ 7)⟩, a2, ?_, ?_⟩, ?_, a3, ?_, a4, ?_⟩, ⟨⟨?_, ?_⟩, a6, fun e e0 e1 => (w' e e0 e1).1⟩, Or.inl ⟨rfl, a7, a8⟩⟩, ⟨⟨⟨⟨a9, Int.le_refl _, (by decide : (0 : Int) ≤ 7), ?_, ?_⟩, a10, ?_⟩, ?_, a11, ?_, a12, ?_⟩, ⟨a9, ?_, a13, fun e e0 e1 => ?_, fun e e0 e1 => ?_⟩⟩, ⟨a14, by decide, by rw [a15]; decide, ?_⟩, ⟨a16, by decide, ?_⟩, ?_, fun z => absurd a17 z, fun z => absurd a18 z, fun z => absurd a19 z, ⟨by rw [b1]; decide, by rw [b1, b2], fun i i0 i1 => by rw [b1] at i1; omega⟩, Or.inl ⟨b3, b5⟩, Or.inl ⟨b4, b6⟩⟩
  · exact fun i i0 i1 => by have i1 : i < 3 * 0 := i1; omega
  · exact fun f f0 f1 => by have f1 : f < 0 := f1; omega
  · exact fun j j0 j1 => by have j1 : j < 6 * 0 := j1; omega
  · exact fun k k0 k1 => by have k1 : k < 4 * 0 := k1; omega
  · exact fun e e0 e1 => by have e1 : e < 2 * 0 := e1; omega
  · exact fun v v0 v1 => by have v1 : v < 0 := v1; omega
  · rw [a5]
    decide
  · rw [a5]
    exact fun e _ => zbt_0
  · exact fun i i0 i1 => by have i1 : i < 3 * 0 := i1; omega
  · exact fun i i0 i1 => by have i1 : i < 3 * 0 := i1; omega
  · exact fun f f0 f1 => by have f1 : f < 0 := f1; omega
  · exact fun k k0 k1 => by have k1 : k < 4 * 0 := k1; omega
  · exact fun e e0 e1 => by have e1 : e < 2 * 0 := e1; omega
  · exact fun v v0 v1 => by have v1 : v < 0 := v1; omega
  · exact fun i i0 i1 => by have i1 : i < 3 * 0 := i1; omega
  · rw [Int.zero_add]
    exact (w' e e0 e1).2.1
  · rw [Int.zero_add]
    exact (w' e e0 e1).2.2
  · exact fun i i0 i1 => by omega
  · exact fun i i0 i1 => by omega
  · exact fun i i0 i1 => by omega

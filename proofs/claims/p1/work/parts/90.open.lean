def p1_I (k : Nat) (μ : z_Mem) : Prop := k = 0 → μ = z_mu0
theorem p1_op : op_all (fun μ => μ = z_mu0) (fun _ => True) := sorry
theorem p1_ops (k : Nat) (h : 6 * k + 6 ≤ 6) : op_all (p1_I k) (p1_I (k + 1)) := by
  obtain rfl : k = 0 := by omega
  rw [show p1_I 0 = (fun μ => μ = z_mu0) from funext fun μ => propext ⟨fun h => h rfl, fun h _ => h⟩, show p1_I (0 + 1) = (fun _ => True) from funext fun μ => propext ⟨fun _ => trivial, fun _ h => absurd h (by omega)⟩]
  exact p1_op
theorem p1_start {p : Program} {e : Env} {s : State} {m : MethodId} {below : List Frame} {meth : Method} {c : Code} (l : Launch) {b L : Nat} {xs : Nat → Int32} (hL : L ≤ 6) (C0 : lw_At p s m meth c b L xs) : W p l e room_1 s m #[Value.ref b] below meth c s.heap [] 0 0 (lw_Z below #[Value.ref b] s) (entryFrame m ([Value.ref b] : List Value).toArray 4) :=
  zl_start (N0 := 6) (Inv := p1_I) (by decide) p1_ops (fun _ _ _ h => absurd h (by omega)) (fun _ => rfl) l hL C0

theorem z_ent_eq {cy : Nat → ClassId} {ad : Nat → Nat} {μ μ1 : z_Mem} {o : Int} {sh : Nat × Nat} (h : ∀ j, μ1 o j = μ o j) : z_ent cy ad μ1 o sh = z_ent cy ad μ o sh := by
  unfold z_ent z_fs z_con
  simp only [h]
theorem z_setg {cy : Nat → ClassId} {ad : Nat → Nat} {μ μ1 : z_Mem} {N : Nat} {o : Int} {e : va_E} (h1 : 1 ≤ o) (hn : ∀ p j, p ≠ o → μ1 p j = μ p j) (he : e = z_ent cy ad μ1 o (z_kd o, (z_ln o).toNat)) : (z_ws cy ad μ N).set (o.toNat - 1) (ad o.toNat, e) = z_ws cy ad μ1 N := by
  apply List.ext_getElem?
  intro k
  by_cases hk : k < N
  · rw [z_ws_get hk, List.getElem?_set]
    by_cases hj : o.toNat - 1 = k
    · subst hj
      rw [if_pos rfl, if_pos (by simpa [z_ws] using hk), he]
      unfold z_cl
      rw [z_shd h1, show o.toNat - 1 + 1 = o.toNat by omega, show ((o.toNat - 1 : Nat) : Int) + 1 = o by omega]
    · rw [if_neg hj, z_ws_get hk]
      unfold z_cl
      rw [z_ent_eq (fun j => (hn ((k : Int) + 1) j (by omega)))]
  · rw [List.getElem?_eq_none (by simp [z_ws]; omega), List.getElem?_eq_none (by simp [z_ws]; omega)]
/-- a stretch of an array over one of another -/
def z_cpy (μ : z_Mem) (o1 sp o2 dp n : Int) : z_Mem := fun p i => if p = o2 ∧ dp ≤ i ∧ i < dp + n then μ o1 (sp + (i - dp)) else μ p i
theorem z_frame_arraycopy : nativeFrameWords "java/lang/System" "arraycopy" 5 + 11 ≤ 40 := by decide +kernel
section ZP
variable {M : z_M} {pc : Nat} {lo lo' : List (Option z_V)} {sk : List z_V} {w : z_W} {μ : z_Mem} {d : Nat} {Q : Option z_V → z_Mem → Prop} {a b x y o i : Int}
theorem z_acopy {idx : Nat} {o1 sp o2 dp n : Int} (hd : decode M.2.1 pc = .ok (.invokestatic idx, 3)) (hL : Cond.methodLink M.1.cls idx arraycopyName ∈ z_gw) (hnt : Cond.native arraycopyName ∈ z_gw) (hs : Cond.static arraycopyName ∈ z_gw) (hi : Cond.initialized "java/lang/System" ∈ z_gw) (hcat : (sk.map z_cat).sum ≤ 8)
    (ho1 : z_is w o1 14) (ho2 : z_is w o2 14) (h1 : 0 ≤ sp) (h2 : 0 ≤ dp) (h3 : 0 ≤ n) (h4 : sp + n ≤ z_ln o1) (h5 : dp + n ≤ z_ln o2)
    (h : z_R M (pc + 3) lo sk w (z_cpy μ o1 sp o2 dp n) (d + 1) Q) : z_R M pc lo ((0, n) :: (0, dp) :: (2, o2) :: (0, sp) :: (2, o1) :: sk) w μ (d + 1) Q := by
  intro p l e R s m args below meth c H locs cells slots D cy ad A ls hC hG hr hh hl ha hb hk
  obtain ⟨p1, p2, p3⟩ := ho1
  obtain ⟨q1, q2, q3⟩ := ho2
  have hn : z_I n := ha.1
  have hdp : z_I dp := ha.2.1
  have hsp : z_I sp := ha.2.2.2.1
  have he1 := z_at (cy := cy) (ad := ad) (μ := μ) p1 p2
  have he2 := z_at (cy := cy) (ad := ad) (μ := μ) q1 q2
  rw [p3, z_ent_a (by decide)] at he1
  rw [q3, z_ent_a (by decide)] at he2
  simp only [List.map_cons]
  rw [z_rfp (x := o1) (by omega), z_rfp (x := o2) (by omega)]
  have c1 := z_clamp hn
  have c2 := z_clamp hdp
  have c3 := z_clamp hsp
  have nneg : ∀ {x : Int}, z_I x → 0 ≤ x → ¬ Int32.ofInt x < 0 := fun hx h0 q => by
    have := (z_lt32 hx z_I0).mp q
    omega
  refine va_copyi (sp := Int32.ofInt sp) (dp := Int32.ofInt dp) (n := Int32.ofInt n) (ty := .int) hC.1 hC.2.1 (by rw [hC.2.2.2.1]; exact hl.1.symm) hC.2.2.2.2.1 (hG.1 _ hL) (hG.1 _ hnt) (hG.1 _ hs) (hG.1 _ hi) hG.2.2.1 hh.1 hh.2.1 hh.2.2.1 (o1.toNat - 1) (o2.toNat - 1) 1 1 he1 he2 rfl rfl rfl (nneg hsp h1) (nneg hdp h2) (nneg hn h3) (by rw [c1, c3]; omega) (by rw [c1, c2]; omega) (fun i _ => rfl) (by have := hr.1; omega) ?_ hd (fun H1 locs1 hP hD hS => ?_)
  · rw [z_catsum]
    have := hr.2.1
    have := z_frame_arraycopy
    omega
  · rw [c1, c2, c3] at hP hD
    have hset := z_setg (cy := cy) (ad := ad) (μ := μ) (μ1 := z_cpy μ o1 sp o2 dp n) (N := w.1) (o := o2) q1 (fun p j hp => if_neg (fun q => hp q.1)) (e := .inl (cy 14, (z_ln o2).toNat, .inl (va_cpy (fun j => Int32.ofInt (μ o1 j)) (fun j => Int32.ofInt (μ o2 j)) sp.toNat dp.toNat n.toNat))) (by
      rw [q3, z_ent_a (by decide)]
      show (_ : va_E) = Sum.inl (cy 14, (z_ln o2).toNat, .inl (fun j : Nat => Int32.ofInt (z_cpy μ o1 sp o2 dp n o2 j)))
      congr 4
      funext j
      unfold va_cpy z_cpy
      by_cases hj : dp.toNat ≤ j ∧ j < dp.toNat + n.toNat
      · rw [if_pos hj, if_pos ⟨rfl, by omega, by omega⟩]
        simp only
        rw [show ((sp.toNat + (j - dp.toNat) : Nat) : Int) = sp + ((j : Int) - dp) by omega]
      · rw [if_neg hj, if_neg (fun q => hj ⟨by omega, by omega⟩)])
    rw [hset] at hP hD
    have hok : z_ok (z_cpy μ o1 sp o2 dp n) w := by
      refine ⟨fun p j g1 g2 => ?_, fun hw p j hpj => ?_⟩
      · unfold z_cpy
        split
        · rename_i hq
          have t1 : z_tg p j = 0 := by unfold z_tg; rw [hq.1, q3]; rfl
          have t2 : z_tg o1 (sp + (j - dp)) = 0 := by unfold z_tg; rw [p3]; rfl
          have := hk.1 o1 (sp + (j - dp)) p1 p2
          rw [t2] at this
          rw [t1]
          exact this
        · exact hk.1 p j g1 g2
      · unfold z_cpy
        split
        · rename_i hq
          have t1 : z_tg p j = 0 := by unfold z_tg; rw [hq.1, q3]; rfl
          rw [z_isPa (by rw [t1]; decide)] at hpj
          cases hpj
        · exact hk.2 hw p j hpj
    exact h p l e R s m args below meth c H1 locs1 cells slots D cy ad A ls hC hG hr ⟨hP, hD, hS, hh.2.2.2⟩ hl ha.2.2.2.2.2 hb hok
end ZP

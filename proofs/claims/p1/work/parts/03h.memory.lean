theorem z_shd {o : Int} (h1 : 1 ≤ o) : z_sh.getD (o.toNat - 1) (99, 0) = (z_kd o, (z_ln o).toNat) := by
  unfold z_kd z_ln
  rw [if_neg (by omega), if_neg (by omega), Int.toNat_natCast]
theorem z_at {cy : Nat → ClassId} {ad : Nat → Nat} {μ : z_Mem} {N : Nat} {o : Int} (h1 : 1 ≤ o) (h2 : o ≤ N) : (z_ws cy ad μ N)[o.toNat - 1]? = some (ad o.toNat, z_ent cy ad μ o (z_kd o, (z_ln o).toNat)) := by
  rw [z_ws_get (show o.toNat - 1 < N by omega)]
  unfold z_cl
  rw [z_shd h1, show o.toNat - 1 + 1 = o.toNat by omega, show ((o.toNat - 1 : Nat) : Int) + 1 = o by omega]
theorem z_set {cy : Nat → ClassId} {ad : Nat → Nat} {μ : z_Mem} {N : Nat} {o i v : Int} {e : va_E} (h1 : 1 ≤ o) (he : e = z_ent cy ad (z_st μ o i v) o (z_kd o, (z_ln o).toNat)) : (z_ws cy ad μ N).set (o.toNat - 1) (ad o.toNat, e) = z_ws cy ad (z_st μ o i v) N := by
  have e1 : ((o.toNat - 1 : Nat) : Int) + 1 = o := by omega
  have h := z_ws_set (cy := cy) (ad := ad) (μ := μ) (N := N) (j := o.toNat - 1) (i := i) (v := v) (e := e) (by rw [e1, z_shd h1]; exact he)
  rw [e1, show o.toNat - 1 + 1 = o.toNat by omega] at h
  exact h
theorem z_val_sk {ad : Nat → Nat} {t : Nat} {x : Int} : z_val ad (z_sk t, x) = z_val ad (t, x) := by
  unfold z_sk
  split <;> first | rfl | (unfold z_val; split <;> first | rfl | contradiction)
theorem z_rng_rv {t N : Nat} {x : Int} (h : z_rng t x N) : z_rv (z_sk t, x) := by
  unfold z_rng at h
  unfold z_sk
  split at h
  · exact h
  · exact h.1
  · exact ⟨by omega, by omega⟩
  · exact ⟨by omega, by omega⟩
  · split
    · contradiction
    · contradiction
    · exact h
theorem z_fs_get {ad : Nat → Nat} {μ : z_Mem} {o : Int} {k j : Nat} (h : j < z_nf k) : (z_fs ad μ o k)[j]? = some (z_val ad (z_ftag k j, μ o j)) := by
  unfold z_fs
  rw [List.getElem?_map, List.getElem?_range h]
  rfl
theorem z_fs_set {ad : Nat → Nat} {μ : z_Mem} {o x : Int} {k j : Nat} : (z_fs ad μ o k).set j (z_val ad (z_ftag k j, x)) = z_fs ad (z_st μ o j x) o k := by
  apply List.ext_getElem?
  intro i
  by_cases hi : i < z_nf k
  · rw [z_fs_get hi, List.getElem?_set]
    by_cases hj : j = i
    · subst hj
      rw [if_pos rfl, if_pos (by simpa [z_fs] using hi), z_st_eq]
    · rw [if_neg hj, z_fs_get hi, z_st_ni (by omega)]
  · rw [List.getElem?_eq_none (by simp [z_fs]; omega), List.getElem?_eq_none (by simp [z_fs]; omega)]
theorem z_ent_o {cy : Nat → ClassId} {ad : Nat → Nat} {μ : z_Mem} {o : Int} {k n : Nat} (h : k < 13) : z_ent cy ad μ o (k, n) = .inr (k, z_fs ad μ o k) := if_pos h
theorem z_ent_a {cy : Nat → ClassId} {ad : Nat → Nat} {μ : z_Mem} {o : Int} {k n : Nat} (h : ¬ k < 13) : z_ent cy ad μ o (k, n) = .inl (cy k, n, z_con ad μ o k) := if_neg h
theorem z_tgo {o : Int} {k j : Nat} (h : z_kd o = k) (hk : k < 13) : z_tg o j = z_ftag k j := by
  unfold z_tg z_tgk
  rw [h, if_pos hk, if_neg (by omega), Int.toNat_natCast]
theorem z_ok_st {μ : z_Mem} {w : z_W} {o i x : Int} (h : z_ok μ w) (hx : z_rng (z_tg o i) x w.1) (hp : w.2.2 = true → z_isP o i = false) : z_ok (z_st μ o i x) w := by
  refine ⟨fun p j h1 h2 => ?_, fun hw p j hpj => ?_⟩
  · unfold z_st
    split
    · rename_i hq
      rw [hq.1, hq.2]
      exact hx
    · exact h.1 p j h1 h2
  · unfold z_st
    split
    · rename_i hq
      rw [hq.1, hq.2, hp hw] at hpj
      cases hpj
    · exact h.2 hw p j hpj
/-- a reference to a cell that is made, of a kind -/
def z_is (w : z_W) (o : Int) (k : Nat) : Prop := 1 ≤ o ∧ o ≤ w.1 ∧ z_kd o = k
section ZM
variable {M : z_M} {pc : Nat} {lo lo' : List (Option z_V)} {sk : List z_V} {w : z_W} {μ : z_Mem} {d : Nat} {Q : Option z_V → z_Mem → Prop} {a b x y o i : Int}
theorem z_getf {idx kc j : Nat} {ty : FieldType} {fin : Bool} {t : Nat} (hd : decode M.2.1 pc = .ok (.getfield idx, 3)) (hf : z_FL M.1.cls idx kc j ty fin) (ho : z_is w o kc) (ht : z_sk (z_ftag kc j) = t) (h : z_R M (pc + 3) lo ((t, μ o j) :: sk) w μ d Q) : z_R M pc lo ((2, o) :: sk) w μ d Q := by
  intro p l e R s m args below meth c H locs cells slots D cy ad A ls hC hG hr hh hl ha hb hk
  obtain ⟨ho1, ho2, ho3⟩ := ho
  obtain ⟨q, hq, hj, hlink, -, -⟩ := hf
  obtain ⟨hk13, hin, hnf, -, -⟩ := z_cls kc q hq
  have he := z_at (cy := cy) (ad := ad) (μ := μ) ho1 ho2
  rw [ho3, z_ent_o hk13] at he
  have h1 := h p l e R s m args below meth c H locs cells slots D cy ad A ls hC hG hr hh hl ⟨by rw [← ht, ← z_tgo ho3 hk13]; exact z_rng_rv (hk.1 o j ho1 ho2), ha.2⟩ hb hk
  rw [List.map_cons, ← ht, z_val_sk] at h1
  rw [List.map_cons, z_rfp (by omega)]
  exact va_get (C := q.1) (T := q.2.1) (N := q.2.2) hC.1 hC.2.1 hG.1 hin hC.2.2.2.2.1 hG.2.2.1 hh.1 _ he hq j hj (hG.1 _ hlink) (fun _ z => z) (z_fs_get (by rw [← hnf]; exact hj)) hd h1
/-- a reference that stays -/
theorem z_getp {idx kc j : Nat} {ty : FieldType} {fin : Bool} (v : Int) (hd : decode M.2.1 pc = .ok (.getfield idx, 3)) (hf : z_FL M.1.cls idx kc j ty fin) (ho : z_is w o kc) (ht : z_sk (z_ftag kc j) = 2) (hw : w.2.2 = true) (hp : z_isP o j = true) (hv : z_P o j = v) (h : z_R M (pc + 3) lo ((2, v) :: sk) w μ d Q) : z_R M pc lo ((2, o) :: sk) w μ d Q := by
  refine z_use fun _ _ hk => ?_
  refine z_getf hd hf ho ht ?_
  rw [hk.2 hw o j hp, hv]
  exact h
theorem z_putf {idx kc j : Nat} {ty : FieldType} {t : Nat} (hd : decode M.2.1 pc = .ok (.putfield idx, 3)) (hf : z_FL M.1.cls idx kc j ty false) (ho : z_is w o kc) (ht : z_sk (z_ftag kc j) = t)
    (hx : z_rng (z_ftag kc j) x w.1) (hn : ∀ ad, narrow ty (z_val ad (z_ftag kc j, x)) = z_val ad (z_ftag kc j, x) ∧ fits ty (z_val ad (z_ftag kc j, x)) = true) (hp : w.2.2 = true → z_isP o j = false)
    (h : z_R M (pc + 3) lo sk w (z_st μ o j x) d Q) : z_R M pc lo ((t, x) :: (2, o) :: sk) w μ d Q := by
  intro p l e R s m args below meth c H locs cells slots D cy ad A ls hC hG hr hh hl ha hb hk
  obtain ⟨ho1, ho2, ho3⟩ := ho
  obtain ⟨q, hq, hj, hlink, hfin, hty⟩ := hf
  obtain ⟨hk13, hin, hnf, ⟨ty0, hty0⟩, hnm⟩ := z_cls kc q hq
  have he := z_at (cy := cy) (ad := ad) (μ := μ) ho1 ho2
  rw [ho3, z_ent_o hk13] at he
  rw [List.map_cons, List.map_cons, z_rfp (x := o) (by omega), ← ht, z_val_sk]
  refine va_put (C := q.1) (T := q.2.1) (N := q.2.2) hC.1 hC.2.1 hG.1 hin ty0 hty0 hnm hC.2.2.2.2.1 hG.2.2.1 hh.1 hh.2.1 hh.2.2.1 _ he hq j hj (hG.1 _ hlink) (fun _ z => z) hfin hty (hn ad).1 (hn ad).2 (by simp [z_fs]; rw [← hnf]; exact hj) hd (fun H1 locs1 hP hD hS => ?_)
  have hset := z_set (cy := cy) (ad := ad) (μ := μ) (N := w.1) (o := o) (i := j) (v := x) ho1 (e := .inr (kc, (z_fs ad μ o kc).set j (z_val ad (z_ftag kc j, x)))) (by rw [ho3, z_ent_o hk13, z_fs_set])
  rw [hset] at hP hD
  exact h p l e R s m args below meth c H1 locs1 cells slots D cy ad A ls hC hG hr ⟨hP, hD, hS, hh.2.2.2⟩ hl ha.2.2 hb (z_ok_st hk (by rw [z_tgo ho3 hk13]; exact hx) hp)
/-- a final field, in its constructor -/
theorem z_putF {idx kc j : Nat} {ty : FieldType} {t : Nat} (hd : decode M.2.1 pc = .ok (.putfield idx, 3)) (hf : z_FL M.1.cls idx kc j ty true) (ho : z_is w o kc) (ht : z_sk (z_ftag kc j) = t) (hi : M.1.name = "<init>") (hdc : ∀ q, vwCl[kc]? = some q → (q.2.1 j).1 = M.1.cls)
    (hx : z_rng (z_ftag kc j) x w.1) (hn : ∀ ad, narrow ty (z_val ad (z_ftag kc j, x)) = z_val ad (z_ftag kc j, x) ∧ fits ty (z_val ad (z_ftag kc j, x)) = true) (hp : w.2.2 = false)
    (h : z_R M (pc + 3) lo sk w (z_st μ o j x) d Q) : z_R M pc lo ((t, x) :: (2, o) :: sk) w μ d Q := by
  intro p l e R s m args below meth c H locs cells slots D cy ad A ls hC hG hr hh hl ha hb hk
  obtain ⟨ho1, ho2, ho3⟩ := ho
  obtain ⟨q, hq, hj, hlink, hfin, hty⟩ := hf
  obtain ⟨hk13, hin, hnf, ⟨ty0, hty0⟩, hnm⟩ := z_cls kc q hq
  have he := z_at (cy := cy) (ad := ad) (μ := μ) ho1 ho2
  rw [ho3, z_ent_o hk13] at he
  rw [List.map_cons, List.map_cons, z_rfp (x := o) (by omega), ← ht, z_val_sk]
  refine va_putF (C := q.1) (T := q.2.1) (N := q.2.2) hC.1 hC.2.1 hG.1 hin ty0 hty0 hnm hC.2.2.2.2.1 hG.2.2.1 hh.1 hh.2.1 hh.2.2.1 _ he hq j hj (hG.1 _ hlink) (fun _ z => z) hfin (hC.2.2.2.2.2.2.trans hi) (hdc q hq) hty (hn ad).1 (hn ad).2 (by simp [z_fs]; rw [← hnf]; exact hj) hd (fun H1 locs1 hP hD hS => ?_)
  have hset := z_set (cy := cy) (ad := ad) (μ := μ) (N := w.1) (o := o) (i := j) (v := x) ho1 (e := .inr (kc, (z_fs ad μ o kc).set j (z_val ad (z_ftag kc j, x)))) (by rw [ho3, z_ent_o hk13, z_fs_set])
  rw [hset] at hP hD
  exact h p l e R s m args below meth c H1 locs1 cells slots D cy ad A ls hC hG hr ⟨hP, hD, hS, hh.2.2.2⟩ hl ha.2.2 hb (z_ok_st hk (by rw [z_tgo ho3 hk13]; exact hx) (fun z => by rw [hp] at z; cases z))
end ZM

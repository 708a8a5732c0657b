theorem z_sl_one {N k n : Nat} (h : z_sh[N]? = some (k, n)) : z_sl N (N + 1) = n := by
  unfold z_sl
  have e : (z_sh.take (N + 1)).drop N = [(k, n)] := by
    apply List.ext_getElem?
    intro i
    rw [List.getElem?_drop, List.getElem?_take]
    match i with
    | 0 => rw [if_pos (by omega), Nat.add_zero, h]; rfl
    | i + 1 => rw [if_neg (by omega)]; rfl
  rw [e]
  simp
theorem z_rng_mono {t N N1 : Nat} {x : Int} (h : z_rng t x N) (hN : N ≤ N1) : z_rng t x N1 := by
  rcases t with _ | _ | _ | _ | _ | t
  · exact h
  · exact h
  · have h2 : 0 ≤ x ∧ x ≤ N := h
    show 0 ≤ x ∧ x ≤ N1
    omega
  · exact h
  · exact h
  · exact h
theorem z_rng0 {t N : Nat} : z_rng t 0 N := by
  unfold z_rng
  split <;> exact ⟨by decide, by first | decide | omega⟩
/-- a cell more: all zero -/
theorem z_ok_new {μ : z_Mem} {N N1 M1 : Nat} (h : z_ok μ (N, M1, false)) (hN : N ≤ N1) (hz : ∀ o i : Int, (N : Int) < o → o ≤ N1 → μ o i = 0) : z_ok μ (N1, M1, false) := by
  refine ⟨fun o i h1 h2 => ?_, fun q => by cases q⟩
  by_cases ho : o ≤ N
  · exact z_rng_mono (h.1 o i h1 ho) hN
  · rw [hz o i (by omega) h2]
    exact z_rng0
theorem z_rf_eq {ad ad1 : Nat → Nat} {x : Int} (h : x = 0 ∨ ad1 x.toNat = ad x.toNat) : z_rf ad1 x = z_rf ad x := by
  unfold z_rf
  split
  · rfl
  · rcases h with h | h
    · contradiction
    · rw [h]
theorem z_val_eq {ad ad1 : Nat → Nat} {t : Nat} {x : Int} (h : t = 2 → x = 0 ∨ ad1 x.toNat = ad x.toNat) : z_val ad1 (t, x) = z_val ad (t, x) := by
  unfold z_val
  split
  · rfl
  · rename_i ht
    exact congrArg va_rf (z_rf_eq (h ht))
  · rfl
theorem z_ent_ad {cy : Nat → ClassId} {ad ad1 : Nat → Nat} {μ : z_Mem} {o : Int} {k n : Nat} (h : ∀ i, z_tgk k i = 2 → μ o i = 0 ∨ ad1 (μ o i).toNat = ad (μ o i).toNat) : z_ent cy ad1 μ o (k, n) = z_ent cy ad μ o (k, n) := by
  unfold z_ent
  split
  · rename_i hk
    simp only at hk
    congr 2
    unfold z_fs
    apply List.map_congr_left
    intro j _
    apply z_val_eq
    intro ht
    apply h
    unfold z_tgk
    rw [if_pos hk, if_neg (by omega), Int.toNat_natCast]
    exact ht
  · rename_i hk
    simp only at hk
    congr 2
    unfold z_con
    split
    · rfl
    · rename_i hkk
      simp only at hkk
      subst hkk
      simp only at *
      congr 5
      funext j
      exact z_rf_eq (h _ rfl)
    · rename_i hkk
      simp only at hkk
      subst hkk
      simp only at *
      congr 5
      funext j
      exact z_rf_eq (h _ rfl)
    · rename_i hkk
      simp only at hkk
      subst hkk
      simp only at *
      congr 5
      funext j
      exact z_rf_eq (h _ rfl)
    · rfl
/-- the world with a cell more -/
theorem z_ws_new {cy : Nat → ClassId} {ad ad1 : Nat → Nat} {μ : z_Mem} {N M1 : Nat} (hok : z_ok μ (N, M1, false)) (had : ∀ x : Nat, x ≤ N → ad1 x = ad x) : z_ws cy ad μ N ++ [z_cl cy ad1 μ N] = z_ws cy ad1 μ (N + 1) := by
  unfold z_ws
  rw [List.range_succ, List.map_append]
  congr 1
  apply List.map_congr_left
  intro j hj
  have hj := List.mem_range.mp hj
  unfold z_cl
  rw [had (j + 1) (by omega)]
  have e1 : z_sh.getD j (99, 0) = (z_kd ((j : Int) + 1), (z_ln ((j : Int) + 1)).toNat) := by
    rw [← z_shd (by omega), show ((j : Int) + 1).toNat - 1 = j by omega]
  rw [e1]
  congr 1
  symm
  apply z_ent_ad
  intro i ht
  right
  have := hok.1 ((j : Int) + 1) i (by omega) (by show (j : Int) + 1 ≤ N; omega)
  rw [show z_tg ((j : Int) + 1) i = 2 from ht] at this
  have h2 : (0 : Int) ≤ μ ((j : Int) + 1) i ∧ μ ((j : Int) + 1) i ≤ N := this
  exact had _ (by omega)
section ZN
variable {M : z_M} {pc pc1 : Nat} {lo lo' : List (Option z_V)} {sk sk1 : List z_V} {w : z_W} {μ : z_Mem} {d N N1 M1 : Nat} {Q : Option z_V → z_Mem → Prop} {a b x y o i : Int}
variable {p : Program} {l : Launch} {e : Env} {R : Room} {s : State} {m : MethodId} {args : Array Value} {below : List Frame} {meth : Method} {c : Code} {H : Heap} {locs : List Loc} {cells slots : Nat}
/-- on with more cells -/
theorem z_cont {D : va_G} {cy : Nat → ClassId} {ad ad1 : Nat → Nat} {A : Nat → Prop} {ls : Array Slot} (h : z_R M pc1 lo sk1 (N1, M1, false) μ d Q)
    (hC : z_C M p s m meth c) (hG : z_G D cy ad A s args) (hr : z_rm (N, M1, false) d R cells slots) (hl : z_lo ad M.2.2.1 ls lo) (hb : z_allo lo) (hall : z_all sk1)
    (h1 : N ≤ N1) (h2 : N1 ≤ M1) (hfit : ∀ (i : Nat) (v : z_V), lo[i]? = some (some v) → z_fitv N v) (had : ∀ x : Nat, ¬ (N < x ∧ x ≤ N1) → ad1 x = ad x)
    (hh1 : z_ho D cy ad1 A (N1, M1, false) μ s H locs) (hok1 : z_ok μ (N1, M1, false)) :
    W p l e R s m args below meth c H locs (cells + (N1 - N)) (slots + z_sl N N1) (MQ below (z_Q D cy ad A (N, M1, false) Q) args s (cells + (M1 - N)) (slots + z_sl N M1) A) (F0 m pc1 ls (sk1.map (z_val ad1))) := by
  have hn : N1 ≤ 1000 := Nat.le_trans h2 hr.2.2.2.1
  have hlo : z_lo ad1 M.2.2.1 ls lo := ⟨hl.1, hl.2.1, fun i v hv => by rw [z_fit_val (hfit i v hv) had hn (hb i v hv)]; exact hl.2.2 i v hv⟩
  have hG1 : z_G D cy ad1 A s args := ⟨hG.1, hG.2.1, hG.2.2.1, fun j q hq => by
    rw [had (1001 + j) (by omega)]
    exact hG.2.2.2 j q hq⟩
  obtain ⟨a1, a2, a3, a4, a5, a6⟩ := hr
  simp only at a3 a4 a5 a6
  have hs := z_sl_add h1 h2
  have h3 := h p l e R s m args below meth c H locs (cells + (N1 - N)) (slots + z_sl N N1) D cy ad1 A ls hC hG1 ⟨a1, a2, h2, a4, by show cells + (N1 - N) + (M1 - N1) ≤ _; omega, by show slots + z_sl N N1 + z_sl N1 M1 ≤ _; omega⟩ hh1 hlo hall hb hok1
  have e2 : cells + (N1 - N) + (M1 - N1) = cells + (M1 - N) := by omega
  have e3 : slots + z_sl N N1 + z_sl N1 M1 = slots + z_sl N M1 := by rw [Nat.add_assoc, hs]
  simp only [e2, e3] at h3
  refine W_mono h3 ?_
  rintro t ⟨oc, hs, hE, ⟨⟨r2, μ2, ad2, g1, g2, g3, g4, g5⟩, g6⟩, g7⟩
  exact ⟨oc, hs, hE, ⟨⟨r2, μ2, ad2, g1, g2, g3, fun x hx => by rw [g4 x (by simp only at hx ⊢; omega), had x (by simp only at hx ⊢; omega)], g5⟩, g6⟩, g7⟩
theorem z_map_fit {ad ad1 : Nat → Nat} (hf : ∀ v ∈ sk, z_fitv N v) (had : ∀ x : Nat, ¬ (N < x ∧ x ≤ N1) → ad1 x = ad x) (hn : N1 ≤ 1000) (ha : z_all sk) : sk.map (z_val ad) = sk.map (z_val ad1) :=
  List.map_congr_left fun v hv => (z_fit_val (hf v hv) had hn ((z_all_iff sk).mp ha v hv)).symm
theorem z_new {kc n idx : Nat} {q : vw_C} (hd : decode M.2.1 pc = .ok (.new idx, 3)) (hcl : Cond.classLink M.1.cls idx q.1 ∈ z_gw) (hin : Cond.instantiable q.1 q.2.2 ∈ z_gw) (hini : Cond.initialized q.1 ∈ z_gw) (hq : vwCl[kc]? = some q) (ty : Nat → FieldType) (hty : ∀ k, k < q.2.2 → parseFieldDescriptor (q.2.1 k).2.2.1 = some (ty k)) (hdf : ∀ j, j < q.2.2 → defaultValue (ty j) = z_val (fun _ => 0) (z_ftag kc j, 0))
    (hsh : z_sh[N]? = some (kc, q.2.2)) (hN : N + 1 ≤ M1) (hfl : ∀ (i : Nat) (v : z_V), lo[i]? = some (some v) → z_fitv N v) (hfs : ∀ v ∈ sk, z_fitv N v) (hz : ∀ i, μ ((N : Int) + 1) i = 0)
    (h : z_R M (pc + 3) lo ((2, (N : Int) + 1) :: sk) (N + 1, M1, false) μ d Q) : z_R M pc lo sk (N, M1, false) μ d Q := by
  intro p l e R s m args below meth c H locs cells slots D cy ad A ls hC hG hr hh hl ha hb hk
  obtain ⟨hk13, hinw, hnf, -, -⟩ := z_cls kc q hq
  have hsl := z_sl_one hsh
  have hcs : cells + 1 ≤ R.cells ∧ slots + q.2.2 ≤ R.slots := by
    obtain ⟨a1, a2, a3, a4, a5, a6⟩ := hr
    simp only at a3 a4 a5 a6
    have := z_sl_add (show N ≤ N + 1 by omega) hN
    rw [hsl] at this
    omega
  have hM : M1 ≤ 1000 := hr.2.2.2.1
  have hdv : ∀ (ad1 : Nat → Nat) (j : Nat), j < q.2.2 → defaultValue (ty j) = vp_V (z_fs ad1 μ ((N : Int) + 1) kc) j := by
    intro ad1 j hj
    unfold vp_V
    rw [List.getD_eq_getElem?_getD, z_fs_get (by rw [← hnf]; exact hj), hz, hdf j hj]
    exact z_val_eq (fun _ => Or.inl rfl)
  refine va_new (C := q.1) (T := q.2.1) (N := q.2.2) (ci := kc) (fs := z_fs ad μ ((N : Int) + 1) kc) hC.1 hC.2.1 hG.1 hinw ty hty hC.2.2.2.2.1 (hG.1 _ hcl) (hG.1 _ hin) (hG.1 _ hini) hG.2.2.1 hh.1 hh.2.1 hh.2.2.1 hh.2.2.2 hq (hdv ad) hcs.1 hcs.2 hd (fun a H1 hP hD hS => ?_)
  have had : ∀ x : Nat, ¬ (N < x ∧ x ≤ N + 1) → va_up ad (N + 1) a x = ad x := fun x hx => if_neg (by omega)
  have hadN : va_up ad (N + 1) a (N + 1) = a := if_pos rfl
  have hfsz : z_fs ad μ ((N : Int) + 1) kc = z_fs (va_up ad (N + 1) a) μ ((N : Int) + 1) kc := by
    unfold z_fs
    apply List.map_congr_left
    intro j _
    exact (z_val_eq (fun _ => Or.inl (hz j))).symm
  have hcell : (a, (Sum.inr (kc, z_fs ad μ ((N : Int) + 1) kc) : va_E)) = z_cl cy (va_up ad (N + 1) a) μ N := by
    unfold z_cl
    rw [hadN, hfsz, List.getD_eq_getElem?_getD, hsh, Option.getD_some, z_ent_o hk13]
  rw [hcell, z_ws_new hk (fun x hx => had x (by omega))] at hP hD
  have hall : z_all ((2, (N : Int) + 1) :: sk) := ⟨by show (0 : Int) ≤ _; omega, ha⟩
  have h9 := z_cont (l := l) (e := e) (below := below) (cells := cells) (slots := slots) h hC hG hr hl hb hall (by omega) hN hfl had ⟨hP, hD, hS, hh.2.2.2⟩ (z_ok_new hk (by omega) (fun o i g1 g2 => by rw [show o = (N : Int) + 1 by omega]; exact hz i))
  rw [show N + 1 - N = 1 by omega, hsl, List.map_cons, ← z_map_fit hfs had (by omega) ha, z_rfp (by omega), show ((N : Int) + 1).toNat = N + 1 by omega, hadN] at h9
  exact h9
end ZN

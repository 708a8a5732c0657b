section ZLAW
variable {p : Program} {l : Launch} {e : Env} {R : Room} {s : State} {m : MethodId} {args : Array Value} {below : List Frame} {meth : Method} {c : Code} {H : Heap} {locs : List Loc} {cells slots : Nat} {Z : State → Prop}
variable {cc : ByteArray} {own : String} {nL pc : Nat} {ls : Array Slot} {rest : List Value} {D : va_G} {cy : Nat → ClassId} {ad : Nat → Nat} {A : Nat → Prop} {μ : z_Mem} {N M1 d : Nat}
theorem zw_new {kc idx : Nat} {q : vw_C} (hx : p.tables.exec = Jvm.exec) (hb : c.code = cc) (hown : s.vm.findClass own = some m.cls) (hG : z_G D cy ad A s args) (hh : z_ho D cy ad A (N, M1, false) μ s H locs) (hk : z_ok μ (N, M1, false))
    (hd : decode cc pc = .ok (.new idx, 3)) (hcl : Cond.classLink own idx q.1 ∈ z_gw) (hin : Cond.instantiable q.1 q.2.2 ∈ z_gw) (hini : Cond.initialized q.1 ∈ z_gw) (hq : vwCl[kc]? = some q) (ty : Nat → FieldType) (hty : ∀ k, k < q.2.2 → parseFieldDescriptor (q.2.1 k).2.2.1 = some (ty k)) (hdf : ∀ j, j < q.2.2 → defaultValue (ty j) = z_val (fun _ => 0) (z_ftag kc j, 0))
    (hsh : z_sh[N]? = some (kc, q.2.2)) (hz : ∀ i, μ ((N : Int) + 1) i = 0) (hcs : cells + 1 ≤ R.cells ∧ slots + q.2.2 ≤ R.slots)
    (kk : ∀ (ad1 : Nat → Nat) (H1 : Heap) (locs1 : List Loc), (∀ x : Nat, ¬ (N < x ∧ x ≤ N + 1) → ad1 x = ad x) → z_ho D cy ad1 A (N + 1, M1, false) μ s H1 locs1 → z_ok μ (N + 1, M1, false) →
      W p l e R s m args below meth c H1 locs1 (cells + 1) (slots + q.2.2) Z (F0 m (pc + 3) ls (.ref (ad1 (N + 1)) :: rest))) : W p l e R s m args below meth c H locs cells slots Z (F0 m pc ls rest) := by
  obtain ⟨hk13, hinw, hnf, -, -⟩ := z_cls kc q hq
  have hdv : ∀ (ad1 : Nat → Nat) (j : Nat), j < q.2.2 → defaultValue (ty j) = vp_V (z_fs ad1 μ ((N : Int) + 1) kc) j := by
    intro ad1 j hj
    unfold vp_V
    rw [List.getD_eq_getElem?_getD, z_fs_get (by rw [← hnf]; exact hj), hz, hdf j hj]
    exact z_val_eq (fun _ => Or.inl rfl)
  refine va_new (C := q.1) (T := q.2.1) (N := q.2.2) (ci := kc) (fs := z_fs ad μ ((N : Int) + 1) kc) hx hb hG.1 hinw ty hty hown (hG.1 _ hcl) (hG.1 _ hin) (hG.1 _ hini) hG.2.2.1 hh.1 hh.2.1 hh.2.2.1 hh.2.2.2 hq (hdv ad) hcs.1 hcs.2 hd (fun a H1 hP hD hS => ?_)
  have had : ∀ x : Nat, ¬ (N < x ∧ x ≤ N + 1) → va_up ad (N + 1) a x = ad x := fun x hx => if_neg (by omega)
  have hadN : va_up ad (N + 1) a (N + 1) = a := if_pos rfl
  have hfsz : z_fs ad μ ((N : Int) + 1) kc = z_fs (va_up ad (N + 1) a) μ ((N : Int) + 1) kc := by
    unfold z_fs
    apply List.map_congr_left
    intro j _
    exact (z_val_eq (fun _ => Or.inl (hz j))).symm
  have hcell : (a, (Sum.inr (kc, z_fs ad μ ((N : Int) + 1) kc) : va_E)) = z_cl cy (va_up ad (N + 1) a) μ N := by
    unfold z_cl
    rw [hadN, hfsz, List.getD_eq_getElem?_getD, hsh, Option.getD_some, z_ent_o hk13]
  rw [hcell, z_ws_new hk (fun x hx => had x (by omega))] at hP hD
  have h9 := kk (va_up ad (N + 1) a) H1 locs had ⟨hP, hD, hS, hh.2.2.2⟩ (z_ok_new hk (by omega) (fun o i g1 g2 => by rw [show o = (N : Int) + 1 by omega]; exact hz i))
  rw [hadN] at h9
  exact h9
theorem zw_vaA (hh : z_ho D cy ad A (N, M1, false) μ s H locs) {b : Bool} {M2 : Nat} : ∀ q, va_A (z_ws cy ad μ ((N, M2, b) : z_W).1) H.size q → A q := fun q hq => by
  rcases hq with ⟨k, e, hk⟩ | hq
  · exact hh.2.1.2 k _ hk
  · exact hh.2.2.2 q (Nat.le_trans hh.2.2.1.1 hq)
theorem zw_init {M' : z_M} {idx n1 o : Nat} {Qc : Option z_V → z_Mem → Prop} (hx : p.tables.exec = Jvm.exec) (hb : c.code = cc) (hown : s.vm.findClass own = some m.cls) (hml : c.maxLocals = nL) (hls : ls.size = nL) (hG : z_G D cy ad A s args) (hh : z_ho D cy ad A (N, M1, false) μ s H locs) (hk : z_ok μ (N, M1, false))
    (hd : decode cc pc = .ok (.invokespecial idx, 3)) (hM : z_MF M' 0) (hL : Cond.methodLink own idx M'.1 ∈ z_gw) (hi : Cond.instanceMethod M'.1 ∈ z_gw) (hnm : M'.1.name = "<init>") (hrt : M'.2.2.2 = none) (ho0 : o ≠ 0) (hlen : 1 ≤ M'.2.2.1) (hcat : (rest.map fun v => v.category).sum ≤ 8) (h1 : N ≤ n1) (h2 : n1 ≤ 1000) (hR : d + 1 ≤ R.frames ∧ 64 * (d + 1) ≤ R.locals) (hcs : cells + (n1 - N) ≤ R.cells ∧ slots + z_sl N n1 ≤ R.slots)
    (h : z_call M' [(2, (o : Int))] (N, n1, false) μ d Qc)
    (kk : ∀ (μ1 : z_Mem) (ad1 : Nat → Nat) (H1 : Heap) (locs1 : List Loc) (r : Option z_V), Qc r μ1 → (∀ x : Nat, ¬ (N < x ∧ x ≤ n1) → ad1 x = ad x) → z_ho D cy ad1 A (n1, M1, false) μ1 s H1 locs1 → z_ok μ1 (n1, M1, false) →
      W p l e R s m args below meth c H1 locs1 (cells + (n1 - N)) (slots + z_sl N n1) Z (F0 m (pc + 3) ls ((r.map (z_val ad1)).toList ++ rest))) : W p l e R s m args below meth c H locs cells slots Z (F0 m pc ls (.ref (ad o) :: rest)) := by
  obtain ⟨hm1, hm2, hm3, hm4, hm5⟩ := hM
  have hargs : z_all [(2, (o : Int))] := ⟨by show (0 : Int) ≤ _; omega, trivial⟩
  have hoI : (o : Int) ≠ 0 := by omega
  refine z_goes (w := (N, M1, false)) (wc := (N, n1, false)) rfl hh (va_runI (As := []) (rest := rest) (b := ad o) ⟨hx, hb, hml, hown, hG.1⟩
    (z_met (as := [(2, (o : Int))]) (w := (N, n1, false)) hm1 hlen h hargs hk h1 h2 l D cy ad A H.size (zw_vaA hh)) (cwI 0 hG.1 (z_goodwd hm2) (by unfold z_wd; rw [hrt]) rfl rfl (hG.1 _ hm3) (hG.1 _ hL) (hG.1 _ hi) hnm hm4 ⟨hR.1, ?_⟩) ⟨z_pc_blind, fun U hU hW => ?_⟩ rfl rfl hls rfl (lv_room hcat) hd hcs) (fun r μ1 ad1 H1 locs1 g1 g2 g3 g4 g5 => kk μ1 ad1 H1 locs1 r g1 g3 g4 g5)
  · show 8 + (M'.2.2.1 + 11) + 64 * d ≤ _
    omega
  · have h5 := z_pc_of (w := (N, M1, false)) (as := [(2, (o : Int))]) (wc := (N, n1, false)) rfl hG hh U hU hW
    rw [List.map_cons, z_rfp hoI, Int.toNat_natCast] at h5
    exact h5
/-- a virtual call from outside, all cells made -/
theorem zw_call {M' : z_M} {idx n kc o : Nat} {as : List z_V} {Qc : Option z_V → z_Mem → Prop} (hx : p.tables.exec = Jvm.exec) (hb : c.code = cc) (hown : s.vm.findClass own = some m.cls) (hml : c.maxLocals = nL) (hls : ls.size = nL) (hG : z_G D cy ad A s args) (hh : z_ho D cy ad A z_n μ s H locs) (hk : z_ok μ z_n)
    (hd : decode cc pc = .ok (.invokevirtual idx, 3)) (hM : z_MF M' n) (hL : z_VL own idx M' kc) (ho : z_is z_n (o : Int) kc) (hn : as.length = n) (hargs : z_all as) (hlen : (z_en ((2, (o : Int)) :: as)).length ≤ M'.2.2.1) (hcat : (rest.map fun v => v.category).sum ≤ 8) (hR : d + 1 ≤ R.frames ∧ 64 * (d + 1) ≤ R.locals) (hcs : cells ≤ R.cells ∧ slots ≤ R.slots)
    (h : z_call M' ((2, (o : Int)) :: as) z_n μ d Qc)
    (kk : ∀ (r : Option z_V) (μ1 : z_Mem) (H1 : Heap) (locs1 : List Loc), Qc r μ1 → (∀ v, r = some v → z_rv v) → z_ho D cy ad A z_n μ1 s H1 locs1 → z_ok μ1 z_n →
      W p l e R s m args below meth c H1 locs1 cells slots Z (F0 m (pc + 3) ls ((r.map (z_val ad)).toList ++ rest))) : W p l e R s m args below meth c H locs cells slots Z (F0 m pc ls ((as.map (z_val ad)).reverse ++ .ref (ad o) :: rest)) := by
  obtain ⟨hm1, hm2, hm3, hm4, hm5⟩ := hM
  obtain ⟨hv1, hv2, hv3, q, hq, hq1⟩ := hL
  obtain ⟨ho1, ho2, ho3⟩ := ho
  have hoI : (o : Int) ≠ 0 := by omega
  have hall : z_all ((2, (o : Int)) :: as) := ⟨by show (0 : Int) ≤ _; omega, hargs⟩
  have he := z_at (cy := cy) (ad := ad) (μ := μ) ho1 ho2
  obtain ⟨hk13, -, -, -, -⟩ := z_cls kc q hq
  rw [ho3, z_ent_o hk13] at he
  have hrecv := va_recv hG.2.2.1 hh.1 hq he
  rw [Int.toNat_natCast] at hrecv
  have hA : ∀ q, va_A (z_ws cy ad μ z_n.1) H.size q → A q := fun q hq => by
    rcases hq with ⟨k, e, hk⟩ | hq
    · exact hh.2.1.2 k _ hk
    · exact hh.2.2.2 q (Nat.le_trans hh.2.2.1.1 hq)
  refine z_goes (w := z_n) (wc := z_n) rfl hh (va_runV (As := as.map (z_val ad)) (rest := rest) (b := ad o) (C := M'.1.cls) ⟨hx, hb, hml, hown, hG.1⟩
    (z_met (w := z_n) hm1 hlen h hall hk (Nat.le_refl _) (by decide) l D cy ad A H.size hA) (cwV n hG.1 ?_ rfl rfl rfl ⟨rfl, hm4⟩ ⟨hR.1, ?_⟩) ⟨z_pc_blind, by rw [← hq1]; exact hrecv, fun U hU hW => ?_⟩ rfl (by rw [List.length_map]; exact hn) hls rfl (lv_room hcat) hd ⟨by rw [Nat.sub_self]; exact hcs.1, by rw [z_sl_nil]; exact hcs.2⟩) (fun r μ1 ad1 H1 locs1 g1 g2 g3 g4 g5 => ?_)
  · exact z_goodcons hv1 (z_goodcons hv2 (z_goodcons hv3 (z_goodcons hm3 (z_goodwd hm2))))
  · show 8 + (M'.2.2.1 + 11) + 64 * d ≤ _
    omega
  · have h5 := z_pc_of (w := z_n) (as := (2, (o : Int)) :: as) (wc := z_n) rfl hG hh U hU hW
    rw [List.map_cons, z_rfp hoI, Int.toNat_natCast] at h5
    exact h5
  · have hadd := z_ad_eq g3
    subst hadd
    have h9 := kk r μ1 H1 locs1 g1 g2 g4 g5
    rw [Nat.sub_self, z_sl_nil]
    exact h9
end ZLAW

theorem z_all_iff : ∀ l : List z_V, z_all l ↔ ∀ v ∈ l, z_rv v
  | [] => ⟨fun _ v h => (by cases h), fun _ => trivial⟩
  | u :: t => ⟨fun h v hv => by
      rcases List.mem_cons.mp hv with rfl | h1
      · exact h.1
      · exact (z_all_iff t).mp h.2 v h1, fun h => ⟨h u List.mem_cons_self, (z_all_iff t).mpr fun v hv => h v (List.mem_cons_of_mem _ hv)⟩⟩
theorem W_mono {p : Program} {l : Launch} {e : Env} {R : Room} {s : State} {m : MethodId} {args : Array Value} {below : List Frame} {meth : Method} {c : Code} {H : Heap} {locs : List Loc} {cells slots : Nat} {Z Z' : State → Prop} {g : JFrame} (h : W p l e R s m args below meth c H locs cells slots Z g) (hz : ∀ t, Z t → Z' t) : W p l e R s m args below meth c H locs cells slots Z' g := by
  intro T hT X
  obtain ⟨t, a, b⟩ := h T hT X
  exact ⟨t, a, hz t b⟩
/-- of a method: plain, its code among the words, its class initialised, how many arguments, few locals -/
def z_MF (M : z_M) (n : Nat) : Prop := plainName M.1.cls = true ∧ Cond.code M.1 M.2.1 M.2.2.1 M.2.2.2 ∈ z_gw ∧ Cond.initialized M.1.cls ∈ z_gw ∧ (M.1.cls ≠ "java/lang/invoke/MethodHandle" ∧ M.1.cls ≠ "java/lang/invoke/VarHandle" ∧ (parseMethodDescriptor M.1.desc).map (fun d => d.parameters.length) = some n) ∧ M.2.2.1 ≤ 40
section ZI
variable {M : z_M} {pc : Nat} {lo lo' : List (Option z_V)} {sk : List z_V} {w : z_W} {μ : z_Mem} {d : Nat} {Q : Option z_V → z_Mem → Prop} {a b x y o i : Int}
variable {p : Program} {l : Launch} {e : Env} {R : Room} {s : State} {m : MethodId} {args : Array Value} {below : List Frame} {meth : Method} {c : Code} {H : Heap} {locs : List Loc} {cells slots : Nat} {Z : State → Prop}
theorem z_rm_call {n1 : Nat} (hr : z_rm w (d + 1) R cells slots) (h1 : w.1 ≤ n1) (h2 : n1 ≤ w.2.1) : (cells + (n1 - w.1) ≤ R.cells ∧ slots + z_sl w.1 n1 ≤ R.slots) ∧ z_rm (n1, w.2.1, w.2.2) (d + 1) R (cells + (n1 - w.1)) (slots + z_sl w.1 n1) := by
  obtain ⟨a1, a2, a3, a4, a5, a6⟩ := hr
  have hs := z_sl_add h1 h2
  refine ⟨⟨by omega, by omega⟩, a1, a2, h2, a4, ?_, ?_⟩
  · show cells + (n1 - w.1) + (w.2.1 - n1) ≤ _
    omega
  · show slots + z_sl w.1 n1 + z_sl n1 w.2.1 ≤ _
    omega
theorem z_after {D : va_G} {cy : Nat → ClassId} {ad : Nat → Nat} {A : Nat → Prop} {ls : Array Slot} {n1 : Nat} {st0 : List Value} {rest : List z_V} {ca : Array Value}
    (hC : z_C M p s m meth c) (hG : z_G D cy ad A s args) (hr : z_rm w (d + 1) R cells slots) (hh : z_ho D cy ad A w μ s H locs) (hl : z_lo ad M.2.2.1 ls lo) (ha : z_all rest) (hb : z_allo lo)
    (h1 : w.1 ≤ n1) (h2 : n1 ≤ w.2.1) (hfit : z_fit w.1 n1 lo rest)
    (hrun : va_Run p l e R s m args below meth c H locs cells slots (n1 - w.1) (z_sl w.1 n1) (F0 m pc ls st0) (rest.map (z_val ad)) (z_Q D cy ad (va_A (z_ws cy ad μ w.1) H.size) (w.1, n1, w.2.2) (fun r μ1 => z_R M (pc + 3) lo (r.toList ++ rest) (n1, w.2.1, w.2.2) μ1 (d + 1) Q) ca) (va_A (z_ws cy ad μ w.1) H.size)) :
    W p l e R s m args below meth c H locs cells slots (MQ below (z_Q D cy ad A w Q) args s (cells + (w.2.1 - w.1)) (slots + z_sl w.1 w.2.1) A) (F0 m pc ls st0) := by
  refine z_goes (wc := (w.1, n1, w.2.2)) rfl hh hrun (fun r μ1 ad1 H1 locs1 hq hrv had hh1 hok1 => ?_)
  have hn : n1 ≤ 1000 := Nat.le_trans h2 hr.2.2.2.1
  have hval : ∀ v, z_fitv w.1 v → z_rv v → z_val ad1 v = z_val ad v := fun v hf hv => z_fit_val (n1 := n1) hf had hn hv
  have hlo : z_lo ad1 M.2.2.1 ls lo := by
    rcases hfit with h | h
    · subst h
      rw [z_ad_eq had]
      exact hl
    · exact ⟨hl.1, hl.2.1, fun i v hv => by rw [hval v (h.1 i v hv) (hb i v hv)]; exact hl.2.2 i v hv⟩
  have hrest : rest.map (z_val ad) = rest.map (z_val ad1) := by
    rcases hfit with h | h
    · subst h
      rw [z_ad_eq had]
    · exact List.map_congr_left fun v hv => (hval v (h.2 v hv) ((z_all_iff rest).mp ha v hv)).symm
  have hG1 : z_G D cy ad1 A s args := ⟨hG.1, hG.2.1, hG.2.2.1, fun j q hq => by
    rw [had (1001 + j) (by show ¬ (w.1 < _ ∧ _ ≤ n1); omega)]
    exact hG.2.2.2 j q hq⟩
  have e1 : (r.map (z_val ad1)).toList ++ rest.map (z_val ad) = (r.toList ++ rest).map (z_val ad1) := by
    rw [hrest, List.map_append]
    cases r <;> rfl
  rw [e1]
  have hall : z_all (r.toList ++ rest) := (z_all_iff _).mpr fun v hv => by
    rcases List.mem_append.mp hv with h | h
    · cases r with
      | none => cases h
      | some u =>
        rw [List.mem_singleton.mp h]
        exact hrv u rfl
    · exact (z_all_iff rest).mp ha v h
  have h3 := hq p l e R s m args below meth c H1 locs1 (cells + (n1 - w.1)) (slots + z_sl w.1 n1) D cy ad1 A ls hC hG1 (z_rm_call hr h1 h2).2 hh1 hlo hall hb hok1
  have e2 : cells + (n1 - w.1) + (w.2.1 - n1) = cells + (w.2.1 - w.1) := by omega
  have e3 : slots + z_sl w.1 n1 + z_sl n1 w.2.1 = slots + z_sl w.1 w.2.1 := by rw [Nat.add_assoc, z_sl_add h1 h2]
  simp only [e2, e3] at h3
  refine W_mono h3 ?_
  rintro t ⟨oc, hs, hE, ⟨⟨r2, μ2, ad2, g1, g2, g3, g4, g5⟩, g6⟩, g7⟩
  exact ⟨oc, hs, hE, ⟨⟨r2, μ2, ad2, g1, g2, g3, fun x hx => by rw [g4 x (by show ¬ (n1 < x ∧ x ≤ w.2.1); omega), had x (by show ¬ (w.1 < x ∧ x ≤ n1); omega)], g5⟩, g6⟩, g7⟩
theorem z_catsum {ad : Nat → Nat} (rest : List z_V) : ((rest.map (z_val ad)).map fun v => v.category).sum = (rest.map z_cat).sum := by
  rw [List.map_map]
  congr 1
  apply List.map_congr_left
  intro v _
  exact z_catc
theorem z_mapv {ad : Nat → Nat} {as rest : List z_V} (h : o ≠ 0) : (as.reverse ++ (2, o) :: rest).map (z_val ad) = (as.map (z_val ad)).reverse ++ .ref (ad o.toNat) :: rest.map (z_val ad) := by
  rw [List.map_append, List.map_cons, z_rfp h, List.map_reverse]
/-- a virtual call's words -/
def z_VL (own : String) (idx : Nat) (M' : z_M) (kc : Nat) : Prop := Cond.methodLink own idx M'.1 ∈ z_gw ∧ Cond.instanceMethod M'.1 ∈ z_gw ∧ Cond.selects M'.1.cls M'.1 M'.1 ∈ z_gw ∧ ∃ q, vwCl[kc]? = some q ∧ q.1 = M'.1.cls
theorem z_invV {M' : z_M} {idx n kc : Nat} {as rest : List z_V} (n1 : Nat) (hd : decode M.2.1 pc = .ok (.invokevirtual idx, 3)) (hM : z_MF M' n) (hL : z_VL M.1.cls idx M' kc) (ho : z_is w o kc) (hsk : sk = as.reverse ++ (2, o) :: rest) (hn : as.length = n) (hlen : (z_en ((2, o) :: as)).length ≤ M'.2.2.1) (hcat : (rest.map z_cat).sum ≤ 8)
    (h1 : w.1 ≤ n1) (h2 : n1 ≤ w.2.1) (hfit : z_fit w.1 n1 lo rest)
    (h : z_call M' ((2, o) :: as) (w.1, n1, w.2.2) μ d (fun r μ1 => z_R M (pc + 3) lo (r.toList ++ rest) (n1, w.2.1, w.2.2) μ1 (d + 1) Q)) : z_R M pc lo sk w μ (d + 1) Q := by
  subst hsk
  intro p l e R s m args below meth c H locs cells slots D cy ad A ls hC hG hr hh hl ha hb hk
  obtain ⟨hm1, hm2, hm3, hm4, hm5⟩ := hM
  obtain ⟨hv1, hv2, hv3, q, hq, hq1⟩ := hL
  obtain ⟨ho1, ho2, ho3⟩ := ho
  have ho0 : o ≠ 0 := by omega
  have hall := (z_all_iff _).mp ha
  have hargs : z_all ((2, o) :: as) := (z_all_iff _).mpr fun v hv => hall v (by
    rcases List.mem_cons.mp hv with rfl | h
    · exact List.mem_append_right _ List.mem_cons_self
    · exact List.mem_append_left _ (List.mem_reverse.mpr h))
  have hrest : z_all rest := (z_all_iff _).mpr fun v hv => hall v (List.mem_append_right _ (List.mem_cons_of_mem _ hv))
  have hrc := z_rm_call hr h1 h2
  rw [z_mapv ho0]
  have he := z_at (cy := cy) (ad := ad) (μ := μ) ho1 ho2
  obtain ⟨hk13, -, -, -, -⟩ := z_cls kc q hq
  rw [ho3, z_ent_o hk13] at he
  have hrecv := va_recv hG.2.2.1 hh.1 hq he
  refine z_after hC hG hr hh hl hrest hb h1 h2 hfit (va_runV (As := as.map (z_val ad)) (rest := rest.map (z_val ad)) (C := M'.1.cls) ⟨hC.1, hC.2.1, hC.2.2.2.1, hC.2.2.2.2.1, hG.1⟩
    (z_met hm1 hlen h hargs hk h1 (Nat.le_trans h2 hr.2.2.2.1) l D cy ad A H.size (fun q hq => ?_)) (cwV n hG.1 ?_ rfl rfl rfl ⟨rfl, hm4⟩ ⟨hr.1, ?_⟩) ⟨z_pc_blind, by rw [← hq1]; exact hrecv, fun U hU hW => ?_⟩ rfl (by rw [List.length_map]; exact hn) hl.1 rfl (by show 2 * 0 + _ ≤ 8; rw [z_catsum]; omega) hd hrc.1)
  · rcases hq with ⟨k, e, hk⟩ | hq
    · exact hh.2.1.2 k _ hk
    · exact hh.2.2.2 q (Nat.le_trans hh.2.2.1.1 hq)
  · exact z_goodcons hv1 (z_goodcons hv2 (z_goodcons hv3 (z_goodcons hm3 (z_goodwd hm2))))
  · show 8 + (M'.2.2.1 + 11) + 64 * d ≤ _
    have := hr.2.1
    omega
  · have h5 := z_pc_of (as := (2, o) :: as) (wc := (w.1, n1, w.2.2)) rfl hG hh U hU hW
    rw [List.map_cons, z_rfp ho0] at h5
    exact h5
/-- a static call's words -/
def z_SL (own : String) (idx : Nat) (M' : z_M) : Prop := Cond.methodLink own idx M'.1 ∈ z_gw ∧ Cond.static M'.1 ∈ z_gw
theorem z_invS {M' : z_M} {idx n : Nat} {as rest : List z_V} (n1 : Nat) (hd : decode M.2.1 pc = .ok (.invokestatic idx, 3)) (hM : z_MF M' n) (hL : z_SL M.1.cls idx M') (hsk : sk = as.reverse ++ rest) (hn : as.length = n) (hlen : (z_en as).length ≤ M'.2.2.1) (hcat : (rest.map z_cat).sum ≤ 8)
    (h1 : w.1 ≤ n1) (h2 : n1 ≤ w.2.1) (hfit : z_fit w.1 n1 lo rest)
    (h : z_call M' as (w.1, n1, w.2.2) μ d (fun r μ1 => z_R M (pc + 3) lo (r.toList ++ rest) (n1, w.2.1, w.2.2) μ1 (d + 1) Q)) : z_R M pc lo sk w μ (d + 1) Q := by
  subst hsk
  intro p l e R s m args below meth c H locs cells slots D cy ad A ls hC hG hr hh hl ha hb hk
  obtain ⟨hm1, hm2, hm3, hm4, hm5⟩ := hM
  obtain ⟨hv1, hv2⟩ := hL
  have hall := (z_all_iff _).mp ha
  have hargs : z_all as := (z_all_iff _).mpr fun v hv => hall v (List.mem_append_left _ (List.mem_reverse.mpr hv))
  have hrest : z_all rest := (z_all_iff _).mpr fun v hv => hall v (List.mem_append_right _ hv)
  have hrc := z_rm_call hr h1 h2
  rw [List.map_append, List.map_reverse]
  refine z_after hC hG hr hh hl hrest hb h1 h2 hfit (va_runS (As := as.map (z_val ad)) (rest := rest.map (z_val ad)) ⟨hC.1, hC.2.1, hC.2.2.2.1, hC.2.2.2.2.1, hG.1⟩
    (z_met hm1 hlen h hargs hk h1 (Nat.le_trans h2 hr.2.2.2.1) l D cy ad A H.size (fun q hq => ?_)) (va_cwS n hG.1 ?_ rfl rfl rfl hm4 ⟨hr.1, ?_⟩) ⟨z_pc_blind, fun U hU hW => z_pc_of (as := as) (wc := (w.1, n1, w.2.2)) rfl hG hh U hU hW⟩ rfl (by rw [List.length_map]; exact hn) hl.1 rfl (by show 2 * 0 + _ ≤ 8; rw [z_catsum]; omega) hd hrc.1)
  · rcases hq with ⟨k, e, hk⟩ | hq
    · exact hh.2.1.2 k _ hk
    · exact hh.2.2.2 q (Nat.le_trans hh.2.2.1.1 hq)
  · exact z_goodcons hv1 (z_goodcons hv2 (z_goodcons hm3 (z_goodwd hm2)))
  · show 8 + (M'.2.2.1 + 11) + 64 * d ≤ _
    have := hr.2.1
    omega
/-- a nest mate's static -/
theorem z_invSN {M' : z_M} {idx n : Nat} {host : String} {as rest : List z_V} (n1 : Nat) (hd : decode M.2.1 pc = .ok (.invokestatic idx, 3)) (hM : z_MF M' n) (hL : Cond.methodLinkNest M.1.cls idx M'.1 host ∈ z_nw) (hS : Cond.static M'.1 ∈ z_gw) (hsk : sk = as.reverse ++ rest) (hn : as.length = n) (hlen : (z_en as).length ≤ M'.2.2.1) (hcat : (rest.map z_cat).sum ≤ 8)
    (h1 : w.1 ≤ n1) (h2 : n1 ≤ w.2.1) (hfit : z_fit w.1 n1 lo rest)
    (h : z_call M' as (w.1, n1, w.2.2) μ d (fun r μ1 => z_R M (pc + 3) lo (r.toList ++ rest) (n1, w.2.1, w.2.2) μ1 (d + 1) Q)) : z_R M pc lo sk w μ (d + 1) Q := by
  subst hsk
  intro p l e R s m args below meth c H locs cells slots D cy ad A ls hC hG hr hh hl ha hb hk
  obtain ⟨hm1, hm2, hm3, hm4, hm5⟩ := hM
  have hall := (z_all_iff _).mp ha
  have hargs : z_all as := (z_all_iff _).mpr fun v hv => hall v (List.mem_append_left _ (List.mem_reverse.mpr hv))
  have hrest : z_all rest := (z_all_iff _).mpr fun v hv => hall v (List.mem_append_right _ hv)
  have hrc := z_rm_call hr h1 h2
  rw [List.map_append, List.map_reverse]
  refine z_after hC hG hr hh hl hrest hb h1 h2 hfit (va_runSN (As := as.map (z_val ad)) (rest := rest.map (z_val ad)) ⟨hC.1, hC.2.1, hC.2.2.2.1, hC.2.2.2.2.1, hG.1⟩
    (z_met hm1 hlen h hargs hk h1 (Nat.le_trans h2 hr.2.2.2.1) l D cy ad A H.size (fun q hq => ?_)) ⟨va_cnB n hG.1 (z_goodwd hm2) rfl rfl rfl (hG.2.1 _ hL) (hG.1 _ hm3) hm4 ⟨hr.1, ?_⟩, hG.1 _ hS, trivial⟩ ⟨z_pc_blind, fun U hU hW => z_pc_of (as := as) (wc := (w.1, n1, w.2.2)) rfl hG hh U hU hW⟩ rfl (by rw [List.length_map]; exact hn) hl.1 rfl (by show 2 * 0 + _ ≤ 8; rw [z_catsum]; omega) hd hrc.1)
  · rcases hq with ⟨k, e, hk⟩ | hq
    · exact hh.2.1.2 k _ hk
    · exact hh.2.2.2 q (Nat.le_trans hh.2.2.1.1 hq)
  · show 8 + (M'.2.2.1 + 11) + 64 * d ≤ _
    have := hr.2.1
    omega
/-- a constructor: of the own package, of a nest mate -/
theorem z_invI {M' : z_M} {idx n : Nat} {as rest : List z_V} (n1 : Nat) (hd : decode M.2.1 pc = .ok (.invokespecial idx, 3)) (hM : z_MF M' n) (hL : Cond.methodLink M.1.cls idx M'.1 ∈ z_gw) (hi : Cond.instanceMethod M'.1 ∈ z_gw) (hnm : M'.1.name = "<init>") (hrt : M'.2.2.2 = none) (ho0 : o ≠ 0) (hsk : sk = as.reverse ++ (2, o) :: rest) (hn : as.length = n) (hlen : (z_en ((2, o) :: as)).length ≤ M'.2.2.1) (hcat : (rest.map z_cat).sum ≤ 8)
    (h1 : w.1 ≤ n1) (h2 : n1 ≤ w.2.1) (hfit : z_fit w.1 n1 lo rest)
    (h : z_call M' ((2, o) :: as) (w.1, n1, w.2.2) μ d (fun r μ1 => z_R M (pc + 3) lo (r.toList ++ rest) (n1, w.2.1, w.2.2) μ1 (d + 1) Q)) : z_R M pc lo sk w μ (d + 1) Q := by
  subst hsk
  intro p l e R s m args below meth c H locs cells slots D cy ad A ls hC hG hr hh hl ha hb hk
  obtain ⟨hm1, hm2, hm3, hm4, hm5⟩ := hM
  have hall := (z_all_iff _).mp ha
  have hargs : z_all ((2, o) :: as) := (z_all_iff _).mpr fun v hv => hall v (by
    rcases List.mem_cons.mp hv with rfl | h
    · exact List.mem_append_right _ List.mem_cons_self
    · exact List.mem_append_left _ (List.mem_reverse.mpr h))
  have hrest : z_all rest := (z_all_iff _).mpr fun v hv => hall v (List.mem_append_right _ (List.mem_cons_of_mem _ hv))
  have hrc := z_rm_call hr h1 h2
  rw [z_mapv ho0]
  have hA : ∀ q, va_A (z_ws cy ad μ w.1) H.size q → A q := fun q hq => by
    rcases hq with ⟨k, e, hk⟩ | hq
    · exact hh.2.1.2 k _ hk
    · exact hh.2.2.2 q (Nat.le_trans hh.2.2.1.1 hq)
  refine z_after hC hG hr hh hl hrest hb h1 h2 hfit (va_runI (As := as.map (z_val ad)) (rest := rest.map (z_val ad)) ⟨hC.1, hC.2.1, hC.2.2.2.1, hC.2.2.2.2.1, hG.1⟩
    (z_met hm1 hlen h hargs hk h1 (Nat.le_trans h2 hr.2.2.2.1) l D cy ad A H.size hA) (cwI n hG.1 (z_goodwd hm2) (by unfold z_wd; rw [hrt]) rfl rfl (hG.1 _ hm3) (hG.1 _ hL) (hG.1 _ hi) hnm hm4 ⟨hr.1, ?_⟩) ⟨z_pc_blind, fun U hU hW => ?_⟩ rfl (by rw [List.length_map]; exact hn) hl.1 rfl (by show 2 * 0 + _ ≤ 8; rw [z_catsum]; omega) hd hrc.1)
  · show 8 + (M'.2.2.1 + 11) + 64 * d ≤ _
    have := hr.2.1
    omega
  · have h5 := z_pc_of (as := (2, o) :: as) (wc := (w.1, n1, w.2.2)) rfl hG hh U hU hW
    rw [List.map_cons, z_rfp ho0] at h5
    exact h5
theorem z_invIN {M' : z_M} {idx n : Nat} {host : String} {as rest : List z_V} (n1 : Nat) (hd : decode M.2.1 pc = .ok (.invokespecial idx, 3)) (hM : z_MF M' n) (hL : Cond.methodLinkNest M.1.cls idx M'.1 host ∈ z_nw) (hi : Cond.instanceMethod M'.1 ∈ z_gw) (hnm : M'.1.name = "<init>") (hrt : M'.2.2.2 = none) (ho0 : o ≠ 0) (hsk : sk = as.reverse ++ (2, o) :: rest) (hn : as.length = n) (hlen : (z_en ((2, o) :: as)).length ≤ M'.2.2.1) (hcat : (rest.map z_cat).sum ≤ 8)
    (h1 : w.1 ≤ n1) (h2 : n1 ≤ w.2.1) (hfit : z_fit w.1 n1 lo rest)
    (h : z_call M' ((2, o) :: as) (w.1, n1, w.2.2) μ d (fun r μ1 => z_R M (pc + 3) lo (r.toList ++ rest) (n1, w.2.1, w.2.2) μ1 (d + 1) Q)) : z_R M pc lo sk w μ (d + 1) Q := by
  subst hsk
  intro p l e R s m args below meth c H locs cells slots D cy ad A ls hC hG hr hh hl ha hb hk
  obtain ⟨hm1, hm2, hm3, hm4, hm5⟩ := hM
  have hall := (z_all_iff _).mp ha
  have hargs : z_all ((2, o) :: as) := (z_all_iff _).mpr fun v hv => hall v (by
    rcases List.mem_cons.mp hv with rfl | h
    · exact List.mem_append_right _ List.mem_cons_self
    · exact List.mem_append_left _ (List.mem_reverse.mpr h))
  have hrest : z_all rest := (z_all_iff _).mpr fun v hv => hall v (List.mem_append_right _ (List.mem_cons_of_mem _ hv))
  have hrc := z_rm_call hr h1 h2
  rw [z_mapv ho0]
  have hA : ∀ q, va_A (z_ws cy ad μ w.1) H.size q → A q := fun q hq => by
    rcases hq with ⟨k, e, hk⟩ | hq
    · exact hh.2.1.2 k _ hk
    · exact hh.2.2.2 q (Nat.le_trans hh.2.2.1.1 hq)
  refine z_after hC hG hr hh hl hrest hb h1 h2 hfit (va_runIN (As := as.map (z_val ad)) (rest := rest.map (z_val ad)) ⟨hC.1, hC.2.1, hC.2.2.2.1, hC.2.2.2.2.1, hG.1⟩
    (z_met hm1 hlen h hargs hk h1 (Nat.le_trans h2 hr.2.2.2.1) l D cy ad A H.size hA) ⟨va_cnB n hG.1 (z_goodwd hm2) (by unfold z_wd; rw [hrt]) rfl rfl (hG.2.1 _ hL) (hG.1 _ hm3) hm4 ⟨hr.1, ?_⟩, hnm, hG.1 _ hi⟩ ⟨z_pc_blind, fun U hU hW => ?_⟩ rfl (by rw [List.length_map]; exact hn) hl.1 rfl (by show 2 * 0 + _ ≤ 8; rw [z_catsum]; omega) hd hrc.1)
  · show 8 + (M'.2.2.1 + 11) + 64 * d ≤ _
    have := hr.2.1
    omega
  · have h5 := z_pc_of (as := (2, o) :: as) (wc := (w.1, n1, w.2.2)) rfl hG hh U hU hW
    rw [List.map_cons, z_rfp ho0] at h5
    exact h5
theorem z_objinit {idx : Nat} (hd : decode M.2.1 pc = .ok (.invokespecial idx, 3)) (hL : Cond.methodLink M.1.cls idx Lib.objectInit ∈ z_gw) (hi : Cond.instanceMethod Lib.objectInit ∈ z_gw) (hc : Cond.code Lib.objectInit ⟨#[0xb1]⟩ 1 none ∈ z_gw) (ho0 : o ≠ 0) (hcat : (sk.map z_cat).sum ≤ 8)
    (h : z_R M (pc + 3) lo sk w μ (d + 1) Q) : z_R M pc lo ((2, o) :: sk) w μ (d + 1) Q := by
  intro p l e R s m args below meth c H locs cells slots D cy ad A ls hC hG hr hh hl ha hb hk
  rw [List.map_cons, z_rfp ho0]
  refine W.objInit hC.1 hC.2.1 hC.2.2.2.2.1 (hG.1 _ hL) (hG.1 _ hi) (hG.1 _ hc) rfl (by rw [hC.2.2.2.1]; exact hl.1) rfl hd (by have := hr.1; omega) ?_ (h p l e R s m args below meth c H locs cells slots D cy ad A ls hC hG hr hh hl ha.2 hb hk)
  show 2 * 0 + _ + 12 ≤ _
  rw [z_catsum]
  have := hr.2.1
  omega
theorem z_mmin {idx : Nat} (hd : decode M.2.1 pc = .ok (.invokestatic idx, 3)) (hL : Cond.methodLink M.1.cls idx Lib.Math.min.name ∈ z_gw) (hs : Cond.static Lib.Math.min.name ∈ z_gw) (hi : Cond.initialized "java/lang/Math" ∈ z_gw) (hc : Cond.code Lib.Math.min.name Lib.Math.min.code 2 (some .int) ∈ z_gw) (hcat : (sk.map z_cat).sum ≤ 8)
    (h : z_R M (pc + 3) lo ((0, min a b) :: sk) w μ (d + 1) Q) : z_R M pc lo ((0, b) :: (0, a) :: sk) w μ (d + 1) Q := by
  intro p l e R s m args below meth c H locs cells slots D cy ad A ls hC hG hr hh hl ha hb hk
  have hb1 : z_I b := ha.1
  have ha1 : z_I a := ha.2.1
  have hz : z_I (min a b) := ⟨by have := hb1.1; have := ha1.1; omega, by have := hb1.2; have := ha1.2; omega⟩
  have h2 := h p l e R s m args below meth c H locs cells slots D cy ad A ls hC hG hr hh hl ⟨hz, ha.2.2⟩ hb hk
  refine va_mmin (x := Int32.ofInt a) (y := Int32.ofInt b) hC.1 hC.2.1 (by rw [hC.2.2.2.1]; exact hl.1.symm) hC.2.2.2.2.1 (hG.1 _ hL) (hG.1 _ hs) (hG.1 _ hi) (hG.1 _ hc) (by have := hr.1; omega) (by rw [z_catsum]; have := hr.2.1; omega) (by have := hr.2.2.2.2.1; omega) (by have := hr.2.2.2.2.2; omega) hd ?_
  have e1 : (if Int32.ofInt b < Int32.ofInt a then Int32.ofInt b else Int32.ofInt a) = Int32.ofInt (min a b) := by
    have := z_lt32 hb1 ha1
    by_cases hlt : b < a
    · rw [if_pos (this.mpr hlt), Int.min_eq_right (by omega)]
    · rw [if_neg (fun q => hlt (this.mp q)), Int.min_eq_left (by omega)]
  rw [e1]
  exact h2
theorem z_mmax {idx : Nat} (hd : decode M.2.1 pc = .ok (.invokestatic idx, 3)) (hL : Cond.methodLink M.1.cls idx Lib.Math.max.name ∈ z_gw) (hs : Cond.static Lib.Math.max.name ∈ z_gw) (hi : Cond.initialized "java/lang/Math" ∈ z_gw) (hc : Cond.code Lib.Math.max.name Lib.Math.max.code 2 (some .int) ∈ z_gw) (hcat : (sk.map z_cat).sum ≤ 8)
    (h : z_R M (pc + 3) lo ((0, max a b) :: sk) w μ (d + 1) Q) : z_R M pc lo ((0, b) :: (0, a) :: sk) w μ (d + 1) Q := by
  intro p l e R s m args below meth c H locs cells slots D cy ad A ls hC hG hr hh hl ha hb hk
  have hb1 : z_I b := ha.1
  have ha1 : z_I a := ha.2.1
  have hz : z_I (max a b) := ⟨by have := hb1.1; have := ha1.1; omega, by have := hb1.2; have := ha1.2; omega⟩
  have h2 := h p l e R s m args below meth c H locs cells slots D cy ad A ls hC hG hr hh hl ⟨hz, ha.2.2⟩ hb hk
  refine va_mmax (x := Int32.ofInt a) (y := Int32.ofInt b) hC.1 hC.2.1 (by rw [hC.2.2.2.1]; exact hl.1.symm) hC.2.2.2.2.1 (hG.1 _ hL) (hG.1 _ hs) (hG.1 _ hi) (hG.1 _ hc) (by have := hr.1; omega) (by rw [z_catsum]; have := hr.2.1; omega) (by have := hr.2.2.2.2.1; omega) (by have := hr.2.2.2.2.2; omega) hd ?_
  have e1 : (if Int32.ofInt a < Int32.ofInt b then Int32.ofInt b else Int32.ofInt a) = Int32.ofInt (max a b) := by
    have := z_lt32 ha1 hb1
    by_cases hlt : a < b
    · rw [if_pos (this.mpr hlt), Int.max_eq_right (by omega)]
    · rw [if_neg (fun q => hlt (this.mp q)), Int.max_eq_left (by omega)]
  rw [e1]
  exact h2
theorem z_mabs {idx : Nat} (hd : decode M.2.1 pc = .ok (.invokestatic idx, 3)) (hL : Cond.methodLink M.1.cls idx Lib.Math.abs.name ∈ z_gw) (hs : Cond.static Lib.Math.abs.name ∈ z_gw) (hi : Cond.initialized "java/lang/Math" ∈ z_gw) (hc : Cond.code Lib.Math.abs.name Lib.Math.abs.code 1 (some .int) ∈ z_gw) (hcat : (sk.map z_cat).sum ≤ 8) (hz : z_I (max a (-a)))
    (h : z_R M (pc + 3) lo ((0, max a (-a)) :: sk) w μ (d + 1) Q) : z_R M pc lo ((0, a) :: sk) w μ (d + 1) Q := by
  intro p l e R s m args below meth c H locs cells slots D cy ad A ls hC hG hr hh hl ha hb hk
  have ha1 : z_I a := ha.1
  have h2 := h p l e R s m args below meth c H locs cells slots D cy ad A ls hC hG hr hh hl ⟨hz, ha.2⟩ hb hk
  refine va_mabs (x := Int32.ofInt a) hC.1 hC.2.1 (by rw [hC.2.2.2.1]; exact hl.1.symm) hC.2.2.2.2.1 (hG.1 _ hL) (hG.1 _ hs) (hG.1 _ hi) (hG.1 _ hc) (by have := hr.1; omega) (by rw [z_catsum]; have := hr.2.1; omega) (by have := hr.2.2.2.2.1; omega) (by have := hr.2.2.2.2.2; omega) hd ?_
  have e1 : (if 0 ≤ Int32.ofInt a then Int32.ofInt a else 0 - Int32.ofInt a) = Int32.ofInt (max a (-a)) := by
    have := z_le32 z_I0 ha1
    rw [z_0_32] at this
    by_cases hlt : 0 ≤ a
    · rw [if_pos (this.mpr hlt), Int.max_eq_left (by omega)]
    · rw [if_neg (fun q => hlt (this.mp q)), Int.max_eq_right (by omega), Int32.ofInt_neg, Int32.zero_sub]
  rw [e1]
  exact h2
end ZI

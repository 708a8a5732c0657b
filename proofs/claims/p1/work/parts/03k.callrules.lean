theorem z_en_has {ad : Nat → Nat} {as : List z_V} {nl : Nat} (h : (z_en as).length ≤ nl) : z_lo ad nl ((lg_sl (as.map (z_val ad)) ++ List.replicate (nl - (lg_sl (as.map (z_val ad))).length) Slot.unset).toArray) (z_pad nl (z_en as)) := by
  have h1 := lv_entry (as.map (z_val ad)) (n := nl) (by rw [z_en_len]; exact h)
  refine ⟨h1.1, h1.2.1, fun i v hv => ?_⟩
  exact h1.2.2 (i, z_val ad v) (z_en_get as i v (z_pad_get hv))
/-- a run from the entry is a contract -/
theorem z_met {M : z_M} {as : List z_V} {w : z_W} {μ : z_Mem} {d : Nat} {Q : Option z_V → z_Mem → Prop} (hM : plainName M.1.cls = true) (hlen : (z_en as).length ≤ M.2.2.1) (h : z_call M as w μ d Q) (hall : z_all as) (hok : z_ok μ w) (hw1 : w.1 ≤ w.2.1) (hw2 : w.2.1 ≤ 1000)
    (l : Launch) (D : va_G) (cy : Nat → ClassId) (ad : Nat → Nat) (A0 : Nat → Prop) (sz : Nat) (hA : ∀ q, va_A (z_ws cy ad μ w.1) sz q → A0 q) :
    Met l M.1 (z_wd M) (z_room d (w.2.1 - w.1) (z_sl w.1 w.2.1)) (z_Pc D cy ad A0 w μ sz as) (z_Q D cy ad (va_A (z_ws cy ad μ w.1) sz) w Q) (w.2.1 - w.1) (z_sl w.1 w.2.1) (va_A (z_ws cy ad μ w.1) sz) := by
  refine Met.ofW (cc := M.2.1) (maxL := M.2.2.1) (ret := M.2.2.2) hM rfl ?_
  intro p e s m args below meth c s₁ B hml hv
  obtain ⟨rfl, hsz, hP, hD0, hK, hN, hst⟩ := hv
  subst hsz
  have hts := atoms_spec (ws := z_wd M) B.pre
  have hC : z_C M p s m meth c := ⟨B.exec, B.bytes, B.returns, hml, findClass_of_methodNamed B.named, B.notSynchronized, (name_of_methodNamed B.named B.method).1⟩
  have hG : z_G D cy ad (va_A (z_ws cy ad μ w.1) s.heap.size) s (as.map (z_val ad)).toArray := ⟨fun v hv => hts v (List.mem_cons_of_mem _ hv), hN, hK, fun j q hq => ⟨(hst j q hq).1.narrow hA, (hst j q hq).2.narrow hA⟩⟩
  rw [lg_entry_eq]
  have h1 := h p l e (headSpec (z_wd M) (z_room d (w.2.1 - w.1) (z_sl w.1 w.2.1))).room s m (as.map (z_val ad)).toArray below meth c s.heap [] 0 0 D cy ad (va_A (z_ws cy ad μ w.1) s.heap.size) _ hC hG
    ⟨Nat.le_refl _, Nat.le_refl _, hw1, hw2, by show 0 + _ ≤ _; rw [Nat.zero_add]; exact Nat.le_refl _, by show 0 + _ ≤ _; rw [Nat.zero_add]; exact Nat.le_refl _⟩ ⟨hP, hD0.self, va_S.rf, fun q hq => Or.inr hq⟩ (z_en_has hlen) trivial (fun i v hv => z_en_rv as hall i v (z_pad_get hv)) hok
  rw [Nat.zero_add, Nat.zero_add] at h1
  exact h1
def z_fitv (n : Nat) (v : z_V) : Prop := v.1 = 2 → v.2 ≤ n ∨ 1000 < v.2
def z_fit (n n1 : Nat) (lo : List (Option z_V)) (sk : List z_V) : Prop := n = n1 ∨ ((∀ (i : Nat) (v : z_V), lo[i]? = some (some v) → z_fitv n v) ∧ ∀ v ∈ sk, z_fitv n v)
theorem z_fit_val {n n1 : Nat} {ad ad1 : Nat → Nat} {v : z_V} (h : z_fitv n v) (h1 : ∀ x : Nat, ¬ (n < x ∧ x ≤ n1) → ad1 x = ad x) (hn : n1 ≤ 1000) (hv : z_rv v) : z_val ad1 v = z_val ad v := by
  obtain ⟨t, x⟩ := v
  by_cases ht : t = 2
  · subst ht
    have h2 := h rfl
    have h3 : (0 : Int) ≤ x := hv
    show va_rf (z_rf ad1 x) = va_rf (z_rf ad x)
    unfold z_rf
    split
    · rfl
    · rw [h1 x.toNat (by simp only at h2; omega)]
  · unfold z_val
    split
    · rfl
    · contradiction
    · rfl
theorem z_ad_eq {n : Nat} {ad ad1 : Nat → Nat} (h1 : ∀ x : Nat, ¬ (n < x ∧ x ≤ n) → ad1 x = ad x) : ad1 = ad := funext fun x => h1 x (by omega)
theorem z_sl_add {a b c : Nat} (h1 : a ≤ b) (h2 : b ≤ c) : z_sl a b + z_sl b c = z_sl a c := by
  unfold z_sl
  have e : (z_sh.take c).drop a = (z_sh.take b).drop a ++ (z_sh.take c).drop b := by
    apply List.ext_getElem?
    intro i
    rw [List.getElem?_drop, List.getElem?_take]
    by_cases hb : i < ((z_sh.take b).drop a).length
    · rw [List.getElem?_append_left hb, List.getElem?_drop, List.getElem?_take]
      have : i < b - a := by
        rw [List.length_drop, List.length_take] at hb
        omega
      rw [if_pos (by omega), if_pos (by omega)]
    · rw [List.getElem?_append_right (by omega), List.getElem?_drop, List.getElem?_take]
      rw [List.length_drop, List.length_take] at hb ⊢
      by_cases hl : z_sh.length ≤ b
      · rw [List.getElem?_eq_none (l := z_sh) (i := a + i) (by omega)]
        rw [List.getElem?_eq_none (l := z_sh) (i := b + (i - (min b z_sh.length - a))) (by omega)]
        split <;> split <;> rfl
      · rw [show b + (i - (min b z_sh.length - a)) = a + i by omega]
  rw [e, List.map_append, List.sum_append]
section ZK
variable {M : z_M} {pc : Nat} {lo lo' : List (Option z_V)} {sk : List z_V} {w : z_W} {μ : z_Mem} {d : Nat} {Q : Option z_V → z_Mem → Prop} {a b x y o i : Int}
variable {p : Program} {l : Launch} {e : Env} {R : Room} {s : State} {m : MethodId} {args : Array Value} {below : List Frame} {meth : Method} {c : Code} {H : Heap} {locs : List Loc} {cells slots : Nat} {Z : State → Prop}
/-- behind a call -/
theorem z_goes {D : va_G} {cy : Nat → ClassId} {ad : Nat → Nat} {A : Nat → Prop} {wc : z_W} {Qc : Option z_V → z_Mem → Prop} {ls : Array Slot} {st0 rest : List Value} {ca : Array Value} (hwc : wc.1 = w.1) (hh : z_ho D cy ad A w μ s H locs)
    (hr : va_Run p l e R s m args below meth c H locs cells slots (wc.2.1 - wc.1) (z_sl wc.1 wc.2.1) (F0 m pc ls st0) rest (z_Q D cy ad (va_A (z_ws cy ad μ w.1) H.size) wc Qc ca) (va_A (z_ws cy ad μ w.1) H.size))
    (kk : ∀ (r : Option z_V) (μ1 : z_Mem) (ad1 : Nat → Nat) (H1 : Heap) (locs1 : List Loc), Qc r μ1 → (∀ v, r = some v → z_rv v) → (∀ x : Nat, ¬ (wc.1 < x ∧ x ≤ wc.2.1) → ad1 x = ad x) → z_ho D cy ad1 A (wc.2.1, wc.2.1, wc.2.2) μ1 s H1 locs1 → z_ok μ1 (wc.2.1, wc.2.1, wc.2.2) →
      W p l e R s m args below meth c H1 locs1 (cells + (wc.2.1 - wc.1)) (slots + z_sl wc.1 wc.2.1) Z (F0 m (pc + 3) ls ((r.map (z_val ad1)).toList ++ rest))) : W p l e R s m args below meth c H locs cells slots Z (F0 m pc ls st0) := by
  intro T hT X
  obtain ⟨v, st₀, t, T', L, h0, X', hL, e1, e2, ⟨⟨r, μ1, ad1, hv, hrv, hq, had, hP1, hD1, hok1⟩, hF⟩, st⟩ := hr T hT X
  have hv : v = r.map (z_val ad1) := by cases hv; rfl
  subst hv
  have hA1 : ∀ q, va_A (z_ws cy ad μ w.1) H.size q → A q := by
    intro q hq
    rcases hq with ⟨k, e, hk⟩ | hq
    · exact hh.2.1.2 k _ hk
    · exact hh.2.2.2 q (Nat.le_trans hh.2.2.1.1 hq)
  obtain ⟨hz, hk⟩ := hF
  rw [h0] at hz hk
  obtain ⟨t2, a1, b1⟩ := kk r μ1 ad1 T'.heap (locs ++ L) hq hrv had ⟨by rw [e1]; exact hP1, hD1.weaken (fun _ _ _ => hA1 _), ⟨Nat.le_trans hh.2.2.1.1 (by rw [e1]; exact hz), fun q h1 h2 => by rw [e1, hk q (Nat.lt_of_lt_of_le h1 hh.2.2.1.1) (fun z => h2 (hA1 q z))]; exact hh.2.2.1.2.1 q h1 h2, fun q hq => by
      rcases List.mem_append.mp hq with h | h
      · exact hh.2.2.1.2.2 q h
      · exact hA1 _ (hL q h)⟩, hh.2.2.2⟩ hok1 T' rfl X'
  exact ⟨t2, st t2 a1, b1⟩
theorem z_gwgood {w : Cond} (h : w ∈ z_gw) : (w.onTables && w.keeps) = true ∨ ∃ ty, w = .arrayClass ty := good_of_word (List.mem_filter.mp h).2
theorem z_goodwd {M' : z_M} (h : Cond.code M'.1 M'.2.1 M'.2.2.1 M'.2.2.2 ∈ z_gw) : GoodIn z_gw (z_wd M') := fun w hw => by
  rcases List.mem_cons.mp hw with rfl | h1
  · exact ⟨h, z_gwgood h⟩
  · exact ⟨h1, z_gwgood h1⟩
theorem z_goodcons {w : Cond} {ws : List Cond} (h : w ∈ z_gw) (hs : GoodIn z_gw ws) : GoodIn z_gw (w :: ws) := fun v hv => by
  rcases List.mem_cons.mp hv with rfl | h1
  · exact ⟨h, z_gwgood h⟩
  · exact hs v h1
theorem z_nw_same {u U : State} (h1 : u.vm = U.vm) (h2 : u.vm.Alike U.vm) {v : Cond} (hv : z_isnest v = true) (h : va_Nw v u) : va_Nw v U := by
  unfold z_isnest at hv
  split at hv
  · exact va_Nw.same rfl h1 h
  · exact va_Nw.same rfl h1 h
  · rename_i ty
    cases ty with
    | object C => exact va_AO.moved h2 h
    | array t => exact z_AOA_moved h2 h
    | _ => cases hv
  · cases hv
/-- what the callee finds -/
theorem z_pc_of {D : va_G} {cy : Nat → ClassId} {ad : Nat → Nat} {A : Nat → Prop} {as : List z_V} {wc : z_W} (hwc : wc.1 = w.1) (hG : z_G D cy ad A s args) (hh : z_ho D cy ad A w μ s H locs) (U : State) (hU : U.heap = H) (hW : s.WarmedH U.vm) : z_Pc D cy ad A wc μ H.size as (as.map (z_val ad)).toArray U := by
  refine ⟨rfl, by rw [hU], by rw [hU, hwc]; exact hh.1, by rw [hwc]; exact hh.2.1.weaken (fun _ _ _ _ => trivial), va_K.moved hW.alike hG.2.2.1, fun v hv => z_nw_warm hW (List.mem_filter.mp hv).2 (hG.2.1 v hv), fun j q hq => ?_⟩
  have hkept : ∀ x : Nat, x < s.heap.size → ¬ A x → H[x]? = s.heap[x]? := fun x h1 h2 => hh.2.2.1.2.1 x h1 h2
  rw [hU]
  exact ⟨((hG.2.2.2 j q hq).1.moved hW.alike).kept hkept, ((hG.2.2.2 j q hq).2.moved hW.alike).kept hkept⟩
theorem z_pc_blind {D : va_G} {cy : Nat → ClassId} {ad : Nat → Nat} {A : Nat → Prop} {as : List z_V} {wc : z_W} {sz : Nat} : FrameBlind (z_Pc D cy ad A wc μ sz as) := by
  intro a U g mk q
  obtain ⟨q0, q1, qP, qD, qK, qN, qS⟩ := q
  exact ⟨q0, q1, qP, qD, va_K.moved (u := U) (U := U.calling g mk a) (Vm.Alike.refl U.vm) qK, fun v hv => z_nw_same (u := U) (U := U.calling g mk a) rfl (Vm.Alike.refl U.vm) (List.mem_filter.mp hv).2 (qN v hv), fun j r hr => ⟨(qS j r hr).1.moved (Vm.Alike.refl U.vm), (qS j r hr).2.moved (Vm.Alike.refl U.vm)⟩⟩
end ZK

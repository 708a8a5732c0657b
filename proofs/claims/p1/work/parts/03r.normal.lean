/-! THE NORMAL CASE: all 147 cells are made, the references stay -/
abbrev z_n : z_W := (147, 147, true)
theorem z_sh_len : z_sh.length = 147 := by decide +kernel
theorem z_isn {o : Int} {k : Nat} (h : z_kd o = k) (hk : k < 99) : z_is z_n o k := by
  have h1 : 1 ≤ o := by
    rcases Int.lt_or_le o 1 with h1 | h1
    · unfold z_kd at h
      rw [if_pos (by omega)] at h
      omega
    · exact h1
  refine ⟨h1, ?_, h⟩
  rcases Int.lt_or_le 147 o with h2 | h2
  · unfold z_kd at h
    rw [if_neg (by omega), List.getD_eq_getElem?_getD, List.getElem?_eq_none (by rw [z_sh_len]; omega)] at h
    simp at h
    omega
  · exact h2
theorem z_S_I (j : Nat) (i : Int) : z_I (z_S j i) := by
  unfold z_S
  have key : ∀ q ∈ z_stat, ∀ x ∈ q.2.2, (-10 : Int) ≤ x ∧ x ≤ 10 := by decide +kernel
  by_cases hj : j < z_stat.length
  · rw [List.getD_eq_getElem?_getD (l := z_stat), List.getElem?_eq_getElem hj, Option.getD_some]
    have h1 := key _ (List.getElem_mem hj)
    by_cases hi : i.toNat < (z_stat[j].2.2).length
    · rw [List.getD_eq_getElem?_getD, List.getElem?_eq_getElem hi, Option.getD_some]
      have := h1 _ (List.getElem_mem hi)
      exact ⟨by omega, by omega⟩
    · rw [List.getD_eq_getElem?_getD, List.getElem?_eq_none (by omega), Option.getD_none]
      exact ⟨by decide, by decide⟩
  · rw [List.getD_eq_getElem?_getD (l := z_stat), List.getElem?_eq_none (by omega), Option.getD_none]
    exact z_I0
theorem z_R_mono {M : z_M} {pc : Nat} {lo : List (Option z_V)} {sk : List z_V} {w : z_W} {μ : z_Mem} {d : Nat} {Q Q' : Option z_V → z_Mem → Prop} (h : z_R M pc lo sk w μ d Q) (hq : ∀ r μ1, Q r μ1 → Q' r μ1) : z_R M pc lo sk w μ d Q' := by
  intro p l e R s m args below meth c H locs cells slots D cy ad A ls hC hG hr hh hl ha hb hk
  refine W_mono (h p l e R s m args below meth c H locs cells slots D cy ad A ls hC hG hr hh hl ha hb hk) ?_
  rintro t ⟨oc, hs, hE, ⟨⟨r2, μ2, ad2, g1, g2, g3, g4⟩, g6⟩, g7⟩
  exact ⟨oc, hs, hE, ⟨⟨r2, μ2, ad2, g1, g2, hq _ _ g3, g4⟩, g6⟩, g7⟩
/-- what is known of the memory at all times -/
theorem z_mem {M : z_M} {pc : Nat} {lo : List (Option z_V)} {sk : List z_V} {w : z_W} {μ : z_Mem} {d : Nat} {Q : Option z_V → z_Mem → Prop} (h : z_ok μ w → z_R M pc lo sk w μ d Q) : z_R M pc lo sk w μ d Q := z_use fun _ _ hk => h hk
def z_sub : List (Option z_V) → List (Option z_V) → Prop
  | [], _ => True
  | none :: t, l => z_sub t l.tail
  | some v :: t, l => l.head? = some (some v) ∧ z_sub t l.tail
theorem z_sub_get : ∀ (l' l : List (Option z_V)), z_sub l' l → ∀ (i : Nat) (v : z_V), l'[i]? = some (some v) → l[i]? = some (some v)
  | [], _, _, i, v, h => by simp at h
  | none :: t, l, hs, i, v, h => by
    match i, h with
    | 0, h => cases h
    | i + 1, h =>
      have := z_sub_get t l.tail hs i v (by simpa using h)
      rw [List.getElem?_tail] at this
      exact this
  | some u :: t, l, hs, i, v, h => by
    match i, h with
    | 0, h =>
      simp only [List.getElem?_cons_zero, Option.some.injEq] at h
      subst h
      rw [← List.head?_eq_getElem?]
      exact hs.1
    | i + 1, h =>
      have := z_sub_get t l.tail hs.2 i v (by simpa using h)
      rw [List.getElem?_tail] at this
      exact this
theorem z_drop {M : z_M} {pc : Nat} {lo : List (Option z_V)} (lo' : List (Option z_V)) {sk : List z_V} {w : z_W} {μ : z_Mem} {d : Nat} {Q : Option z_V → z_Mem → Prop} (hs : z_sub lo' lo) (h : z_R M pc lo' sk w μ d Q) : z_R M pc lo sk w μ d Q := by
  intro p l e R s m args below meth c H locs cells slots D cy ad A ls hC hG hr hh hl ha hb hk
  exact h p l e R s m args below meth c H locs cells slots D cy ad A ls hC hG hr hh ⟨hl.1, hl.2.1, fun i v hv => hl.2.2 i v (z_sub_get _ _ hs i v hv)⟩ ha (fun i v hv => hb i v (z_sub_get _ _ hs i v hv)) hk
/-- from a place on, to an int (or a truth), a long, nothing -/
def z_ri (M : z_M) (pc : Nat) (lo : List (Option z_V)) (μ : z_Mem) (d : Nat) (K : Int → z_Mem → Prop) : Prop := z_R M pc lo [] z_n μ d (fun r μ1 => ∃ x, r = some (0, x) ∧ K x μ1)
def z_rl (M : z_M) (pc : Nat) (lo : List (Option z_V)) (μ : z_Mem) (d : Nat) (K : Int → z_Mem → Prop) : Prop := z_R M pc lo [] z_n μ d (fun r μ1 => ∃ x, r = some (1, x) ∧ K x μ1)
def z_rn (M : z_M) (pc : Nat) (lo : List (Option z_V)) (μ : z_Mem) (d : Nat) (K : z_Mem → Prop) : Prop := z_R M pc lo [] z_n μ d (fun r μ1 => r = none ∧ K μ1)
/-- a call, to an int, a long, nothing -/
def z_ci (M : z_M) (as : List z_V) (μ : z_Mem) (d : Nat) (K : Int → z_Mem → Prop) : Prop := z_ri M 0 (z_pad M.2.2.1 (z_en as)) μ d K
def z_cl' (M : z_M) (as : List z_V) (μ : z_Mem) (d : Nat) (K : Int → z_Mem → Prop) : Prop := z_rl M 0 (z_pad M.2.2.1 (z_en as)) μ d K
def z_cn (M : z_M) (as : List z_V) (μ : z_Mem) (d : Nat) (K : z_Mem → Prop) : Prop := z_rn M 0 (z_pad M.2.2.1 (z_en as)) μ d K
theorem z_ri_mono {M : z_M} {pc : Nat} {lo : List (Option z_V)} {μ : z_Mem} {d : Nat} {K K' : Int → z_Mem → Prop} (h : z_ri M pc lo μ d K) (hq : ∀ x μ1, K x μ1 → K' x μ1) : z_ri M pc lo μ d K' := z_R_mono h fun _ _ ⟨x, h1, h2⟩ => ⟨x, h1, hq _ _ h2⟩
theorem z_rl_mono {M : z_M} {pc : Nat} {lo : List (Option z_V)} {μ : z_Mem} {d : Nat} {K K' : Int → z_Mem → Prop} (h : z_rl M pc lo μ d K) (hq : ∀ x μ1, K x μ1 → K' x μ1) : z_rl M pc lo μ d K' := z_R_mono h fun _ _ ⟨x, h1, h2⟩ => ⟨x, h1, hq _ _ h2⟩
theorem z_rn_mono {M : z_M} {pc : Nat} {lo : List (Option z_V)} {μ : z_Mem} {d : Nat} {K K' : z_Mem → Prop} (h : z_rn M pc lo μ d K) (hq : ∀ μ1, K μ1 → K' μ1) : z_rn M pc lo μ d K' := z_R_mono h fun _ _ ⟨h1, h2⟩ => ⟨h1, hq _ h2⟩
theorem z_ri_mem {M : z_M} {pc : Nat} {lo : List (Option z_V)} {μ : z_Mem} {d : Nat} {K : Int → z_Mem → Prop} (h : z_ok μ z_n → z_ri M pc lo μ d K) : z_ri M pc lo μ d K := z_mem h
theorem z_rl_mem {M : z_M} {pc : Nat} {lo : List (Option z_V)} {μ : z_Mem} {d : Nat} {K : Int → z_Mem → Prop} (h : z_ok μ z_n → z_rl M pc lo μ d K) : z_rl M pc lo μ d K := z_mem h
theorem z_rn_mem {M : z_M} {pc : Nat} {lo : List (Option z_V)} {μ : z_Mem} {d : Nat} {K : z_Mem → Prop} (h : z_ok μ z_n → z_rn M pc lo μ d K) : z_rn M pc lo μ d K := z_mem h
section ZW
variable {M M' : z_M} {pc : Nat} {lo lo' : List (Option z_V)} {sk : List z_V} {μ : z_Mem} {d : Nat} {Q : Option z_V → z_Mem → Prop} {a b x y o i L m : Int}
theorem n_getf {idx kc j : Nat} {ji : Int} {ty : FieldType} {fin : Bool} {t : Nat} (hd : decode M.2.1 pc = .ok (.getfield idx, 3)) (hf : z_FL M.1.cls idx kc j ty fin) (ho : z_kd o = kc) (ht : z_sk (z_ftag kc j) = t) (hk : kc < 99) (hj : ((j : Nat) : Int) = ji) (h : z_R M (pc + 3) lo ((t, μ o ji) :: sk) z_n μ d Q) : z_R M pc lo ((2, o) :: sk) z_n μ d Q := by
  subst hj
  exact z_getf hd hf (z_isn ho hk) ht h
theorem n_getp {idx kc j : Nat} {ji : Int} {ty : FieldType} {fin : Bool} {v : Int} (hd : decode M.2.1 pc = .ok (.getfield idx, 3)) (hf : z_FL M.1.cls idx kc j ty fin) (ho : z_kd o = kc) (ht : z_sk (z_ftag kc j) = 2) (hk : kc < 99) (hj : ((j : Nat) : Int) = ji) (hp : z_isP o ji = true ∧ z_P o ji = v) (h : z_R M (pc + 3) lo ((2, v) :: sk) z_n μ d Q) : z_R M pc lo ((2, o) :: sk) z_n μ d Q := by
  subst hj
  exact z_getp v hd hf (z_isn ho hk) ht rfl hp.1 hp.2 h
theorem z_isPo {kc j : Nat} (ho : z_kd o = kc) (hk : kc < 13) (ht : z_ftag kc j ≠ 2) : z_isP o j = false := z_isPa (by rw [z_tgo ho hk]; exact ht)
theorem n_putI {idx kc j : Nat} {ji : Int} (hd : decode M.2.1 pc = .ok (.putfield idx, 3)) (hf : z_FL M.1.cls idx kc j .int false) (ho : z_kd o = kc) (ht : z_ftag kc j = 0) (hk : kc < 13) (hj : ((j : Nat) : Int) = ji) (h : z_R M (pc + 3) lo sk z_n (z_st μ o ji x) d Q) : z_R M pc lo ((0, x) :: (2, o) :: sk) z_n μ d Q := by
  subst hj
  refine z_use fun ha _ _ => ?_
  exact z_putf hd hf (z_isn ho (by omega)) (by rw [ht]; rfl) (by rw [ht]; exact ha.1) (fun ad => by rw [ht]; exact ⟨rfl, rfl⟩) (fun _ => z_isPo ho hk (by rw [ht]; decide)) h
theorem n_putJ {idx kc j : Nat} {ji : Int} (hd : decode M.2.1 pc = .ok (.putfield idx, 3)) (hf : z_FL M.1.cls idx kc j .long false) (ho : z_kd o = kc) (ht : z_ftag kc j = 1) (hk : kc < 13) (hj : ((j : Nat) : Int) = ji) (h : z_R M (pc + 3) lo sk z_n (z_st μ o ji x) d Q) : z_R M pc lo ((1, x) :: (2, o) :: sk) z_n μ d Q := by
  subst hj
  refine z_use fun ha _ _ => ?_
  exact z_putf hd hf (z_isn ho (by omega)) (by rw [ht]; rfl) (by rw [ht]; exact ha.1) (fun ad => by rw [ht]; exact ⟨rfl, rfl⟩) (fun _ => z_isPo ho hk (by rw [ht]; decide)) h
theorem n_putZ {idx kc j : Nat} {ji : Int} (hd : decode M.2.1 pc = .ok (.putfield idx, 3)) (hf : z_FL M.1.cls idx kc j .boolean false) (ho : z_kd o = kc) (ht : z_ftag kc j = 3) (hk : kc < 13) (hj : ((j : Nat) : Int) = ji) (hx : x = 0 ∨ x = 1) (h : z_R M (pc + 3) lo sk z_n (z_st μ o ji x) d Q) : z_R M pc lo ((0, x) :: (2, o) :: sk) z_n μ d Q := by
  subst hj
  exact z_putf hd hf (z_isn ho (by omega)) (by rw [ht]; rfl) (by rw [ht]; rcases hx with rfl | rfl <;> exact ⟨by decide, by decide⟩) (fun ad => by rw [ht]; rcases hx with rfl | rfl <;> exact ⟨rfl, rfl⟩) (fun _ => z_isPo ho hk (by rw [ht]; decide)) h
/-- Reader's text: the one reference that moves -/
theorem n_putT {idx : Nat} (hd : decode M.2.1 pc = .ok (.putfield idx, 3)) (hf : z_FL M.1.cls idx 4 2 (.array .int) false) (hx : z_kd x = 14) (h : z_R M (pc + 3) lo sk z_n (z_st μ 3 2 x) d Q) : z_R M pc lo ((2, x) :: (2, 3) :: sk) z_n μ d Q := by
  have hx1 := z_isn hx (by decide)
  exact z_putf (t := 2) hd hf (z_isn rfl (by decide)) rfl ⟨by have := hx1.1; omega, hx1.2.1⟩ (fun ad => by
    show narrow _ (z_val ad (2, x)) = z_val ad (2, x) ∧ fits _ (z_val ad (2, x)) = true
    rw [z_rfp (by have := hx1.1; omega)]
    exact ⟨rfl, rfl⟩) (fun _ => rfl) h
theorem n_iald (hd : decode M.2.1 pc = .ok (.iaload, 1)) (ho : z_kd o = 14 ∧ z_ln o = L) (h0 : 0 ≤ i ∧ i < L) (h : z_R M (pc + 1) lo ((0, μ o i) :: sk) z_n μ d Q) : z_R M pc lo ((0, i) :: (2, o) :: sk) z_n μ d Q := z_iald hd (z_isn ho.1 (by decide)) h0.1 (by rw [ho.2]; exact h0.2) h
theorem n_bald (hd : decode M.2.1 pc = .ok (.baload, 1)) (ho : z_kd o = 13 ∧ z_ln o = L) (h0 : 0 ≤ i ∧ i < L) (h : z_R M (pc + 1) lo ((0, μ o i) :: sk) z_n μ d Q) : z_R M pc lo ((0, i) :: (2, o) :: sk) z_n μ d Q := z_bald hd (z_isn ho.1 (by decide)) h0.1 (by rw [ho.2]; exact h0.2) h
theorem n_zald (hd : decode M.2.1 pc = .ok (.baload, 1)) (ho : z_kd o = 16 ∧ z_ln o = L) (h0 : 0 ≤ i ∧ i < L) (h : z_R M (pc + 1) lo ((0, μ o i) :: sk) z_n μ d Q) : z_R M pc lo ((0, i) :: (2, o) :: sk) z_n μ d Q := z_zald hd (z_isn ho.1 (by decide)) h0.1 (by rw [ho.2]; exact h0.2) h
theorem n_lald (hd : decode M.2.1 pc = .ok (.laload, 1)) (ho : z_kd o = 15 ∧ z_ln o = L) (h0 : 0 ≤ i ∧ i < L) (h : z_R M (pc + 1) lo ((1, μ o i) :: sk) z_n μ d Q) : z_R M pc lo ((0, i) :: (2, o) :: sk) z_n μ d Q := z_lald hd (z_isn ho.1 (by decide)) h0.1 (by rw [ho.2]; exact h0.2) h
theorem n_iast (hd : decode M.2.1 pc = .ok (.iastore, 1)) (ho : z_kd o = 14 ∧ z_ln o = L) (h0 : 0 ≤ i ∧ i < L) (h : z_R M (pc + 1) lo sk z_n (z_st μ o i x) d Q) : z_R M pc lo ((0, x) :: (0, i) :: (2, o) :: sk) z_n μ d Q := z_iast hd (z_isn ho.1 (by decide)) h0.1 (by rw [ho.2]; exact h0.2) h
theorem n_bast (hd : decode M.2.1 pc = .ok (.bastore, 1)) (ho : z_kd o = 13 ∧ z_ln o = L) (h0 : 0 ≤ i ∧ i < L) (hx : -128 ≤ x ∧ x ≤ 127) (h : z_R M (pc + 1) lo sk z_n (z_st μ o i x) d Q) : z_R M pc lo ((0, x) :: (0, i) :: (2, o) :: sk) z_n μ d Q := z_bast hd (z_isn ho.1 (by decide)) h0.1 (by rw [ho.2]; exact h0.2) hx h
theorem n_zast (hd : decode M.2.1 pc = .ok (.bastore, 1)) (ho : z_kd o = 16 ∧ z_ln o = L) (h0 : 0 ≤ i ∧ i < L) (hx : 0 ≤ x ∧ x ≤ 1) (h : z_R M (pc + 1) lo sk z_n (z_st μ o i x) d Q) : z_R M pc lo ((0, x) :: (0, i) :: (2, o) :: sk) z_n μ d Q := z_zast hd (z_isn ho.1 (by decide)) h0.1 (by rw [ho.2]; exact h0.2) hx h
theorem n_last (hd : decode M.2.1 pc = .ok (.lastore, 1)) (ho : z_kd o = 15 ∧ z_ln o = L) (h0 : 0 ≤ i ∧ i < L) (h : z_R M (pc + 1) lo sk z_n (z_st μ o i x) d Q) : z_R M pc lo ((1, x) :: (0, i) :: (2, o) :: sk) z_n μ d Q := z_last hd (z_isn ho.1 (by decide)) h0.1 (by rw [ho.2]; exact h0.2) h
theorem n_aaldJ {v : Int} (hd : decode M.2.1 pc = .ok (.aaload, 1)) (ho : z_kd o = 17 ∧ z_ln o = L) (h0 : 0 ≤ i ∧ i < L) (hp : z_isP o i = true ∧ z_P o i = v) (h : z_R M (pc + 1) lo ((2, v) :: sk) z_n μ d Q) : z_R M pc lo ((0, i) :: (2, o) :: sk) z_n μ d Q := z_aaldJp v hd (z_isn ho.1 (by decide)) h0.1 (by rw [ho.2]; exact h0.2) rfl hp.1 hp.2 h
theorem n_aaldS {v : Int} (hd : decode M.2.1 pc = .ok (.aaload, 1)) (ho : z_kd o = 18 ∧ z_ln o = L) (h0 : 0 ≤ i ∧ i < L) (hp : z_isP o i = true ∧ z_P o i = v) (h : z_R M (pc + 1) lo ((2, v) :: sk) z_n μ d Q) : z_R M pc lo ((0, i) :: (2, o) :: sk) z_n μ d Q := z_aaldSp v hd (z_isn ho.1 (by decide)) h0.1 (by rw [ho.2]; exact h0.2) rfl hp.1 hp.2 h
theorem n_aaldI {v : Int} (hd : decode M.2.1 pc = .ok (.aaload, 1)) (ho : z_kd o = 19 ∧ z_ln o = L) (h0 : 0 ≤ i ∧ i < L) (hp : z_isP o i = true ∧ z_P o i = v) (h : z_R M (pc + 1) lo ((2, v) :: sk) z_n μ d Q) : z_R M pc lo ((0, i) :: (2, o) :: sk) z_n μ d Q := z_aaldIp v hd (z_isn ho.1 (by decide)) h0.1 (by rw [ho.2]; exact h0.2) rfl hp.1 hp.2 h
theorem n_alen {k t0 : Nat} {ty : FieldType} (hd : decode M.2.1 pc = .ok (.arraylength, 1)) (ho : z_kd o = k ∧ z_ln o = L) (hkk : ¬ k < 13 ∧ k < 99) (ht : ∀ cy, (z_tys cy)[t0]? = some (cy k, ty)) (hn : 0 ≤ L ∧ L ≤ 100000) (h : z_R M (pc + 1) lo ((0, L) :: sk) z_n μ d Q) : z_R M pc lo ((2, o) :: sk) z_n μ d Q := by
  have h1 := ho.2
  subst h1
  exact z_alen hd (z_isn ho.1 hkk.2) hkk.1 ht ⟨by omega, by omega⟩ h
theorem n_sald {j : Nat} {q : String × String × List Int} {oj : Int} (hd : decode M.2.1 pc = .ok (.iaload, 1)) (hq : z_stat[j]? = some q) (hj : ((1001 + j : Nat) : Int) = oj) (hl : ((q.2.2.length : Nat) : Int) = L) (h0 : 0 ≤ i ∧ i < L) (h : z_R M (pc + 1) lo ((0, z_S j i) :: sk) z_n μ d Q) : z_R M pc lo ((0, i) :: (2, oj) :: sk) z_n μ d Q := by
  subst hj
  subst hl
  exact z_sald hd hq h0.1 h0.2 (z_S_I j i) h
theorem n_gets {idx j : Nat} {q : String × String × List Int} {oj : Int} (hd : decode M.2.1 pc = .ok (.getstatic idx, 3)) (hq : z_stat[j]? = some q) (hw : Cond.fieldLink M.1.cls idx q.1 q.2.1 "[I" ∈ z_gw) (hj : ((1001 + j : Nat) : Int) = oj) (h : z_R M (pc + 3) lo ((2, oj) :: sk) z_n μ d Q) : z_R M pc lo sk z_n μ d Q := by
  subst hj
  exact z_gets hd hq hw h
theorem n_getsN {idx j : Nat} {host : String} {q : String × String × List Int} {oj : Int} (hd : decode M.2.1 pc = .ok (.getstatic idx, 3)) (hq : z_stat[j]? = some q) (hw : Cond.fieldLinkNest M.1.cls idx q.1 q.2.1 "[I" host ∈ z_nw) (hj : ((1001 + j : Nat) : Int) = oj) (h : z_R M (pc + 3) lo ((2, oj) :: sk) z_n μ d Q) : z_R M pc lo sk z_n μ d Q := by
  subst hj
  exact z_getsN hd hq hw h
theorem n_iandm {k : Nat} (hd : decode M.2.1 pc = .ok (.iand, 1)) (hk : k ≤ 30 ∧ b = 2 ^ k - 1) (hm : 2 ^ k = m) (h : z_R M (pc + 1) lo ((0, a % m) :: sk) z_n μ d Q) : z_R M pc lo ((0, b) :: (0, a) :: sk) z_n μ d Q := by
  subst hm
  exact z_iandm hd k hk.1 hk.2 h
theorem n_ishr (hd : decode M.2.1 pc = .ok (.ishr, 1)) (h0 : 0 ≤ b ∧ b < 32) (hm : 2 ^ b.toNat = m) (h : z_R M (pc + 1) lo ((0, a / m) :: sk) z_n μ d Q) : z_R M pc lo ((0, b) :: (0, a) :: sk) z_n μ d Q := by
  subst hm
  exact z_ishr hd h0.1 h0.2 h
theorem n_iushr (hd : decode M.2.1 pc = .ok (.iushr, 1)) (h0 : 0 ≤ b ∧ b < 32) (h3 : 0 ≤ a) (h : z_R M (pc + 1) lo ((0, a / 2 ^ b.toNat) :: sk) z_n μ d Q) : z_R M pc lo ((0, b) :: (0, a) :: sk) z_n μ d Q := z_iushr hd h0.1 h0.2 h3 h
theorem n_iushrg (hd : decode M.2.1 pc = .ok (.iushr, 1)) (h0 : 0 ≤ b ∧ b < 32) (hs : z_I (a % 4294967296 / 2 ^ b.toNat)) (h : z_R M (pc + 1) lo ((0, a % 4294967296 / 2 ^ b.toNat) :: sk) z_n μ d Q) : z_R M pc lo ((0, b) :: (0, a) :: sk) z_n μ d Q := z_iushrg hd h0.1 h0.2 hs h
theorem n_ishl (hd : decode M.2.1 pc = .ok (.ishl, 1)) (h0 : 0 ≤ b ∧ b < 32) (hs : z_I (a * 2 ^ b.toNat)) (h : z_R M (pc + 1) lo ((0, a * 2 ^ b.toNat) :: sk) z_n μ d Q) : z_R M pc lo ((0, b) :: (0, a) :: sk) z_n μ d Q := z_ishl hd h0.1 h0.2 hs h
theorem n_pow {k : Nat} (h : k < 31) : z_I (2 ^ k) := by
  have h2 : (2 : Int) ^ k = ((2 ^ k : Nat) : Int) := by simp
  have h3 : (2 : Nat) ^ k < 2 ^ 31 := Nat.pow_lt_pow_right (by decide) h
  rw [h2]
  generalize 2 ^ k = q at h3
  exact ⟨by omega, by omega⟩
theorem n_powJ {k : Nat} (h : k < 63) : z_J (2 ^ k) := by
  have h2 : (2 : Int) ^ k = ((2 ^ k : Nat) : Int) := by simp
  have h3 : (2 : Nat) ^ k < 2 ^ 63 := Nat.pow_lt_pow_right (by decide) h
  rw [h2]
  generalize 2 ^ k = q at h3
  exact ⟨by omega, by omega⟩
theorem n_ishl1 (hd : decode M.2.1 pc = .ok (.ishl, 1)) (h0 : 0 ≤ b ∧ b < 31) (h : z_R M (pc + 1) lo ((0, 2 ^ b.toNat) :: sk) z_n μ d Q) : z_R M pc lo ((0, b) :: (0, 1) :: sk) z_n μ d Q := by
  refine z_ishl hd h0.1 (by omega) ?_ ?_
  · rw [Int.one_mul]
    exact n_pow (by omega)
  · rw [Int.one_mul]
    exact h
theorem n_lshl1 (hd : decode M.2.1 pc = .ok (.lshl, 1)) (h0 : 0 ≤ b ∧ b < 63) (h : z_R M (pc + 1) lo ((1, 2 ^ b.toNat) :: sk) z_n μ d Q) : z_R M pc lo ((0, b) :: (1, 1) :: sk) z_n μ d Q := by
  refine z_lshl hd (by decide) h0.1 (by omega) ?_ ?_
  · rw [Int.one_mul]
    exact n_powJ (by omega)
  · rw [Int.one_mul]
    exact h
theorem n_lushr (hd : decode M.2.1 pc = .ok (.lushr, 1)) (h0 : 0 ≤ b ∧ b < 64) (h3 : 0 ≤ a) (h : z_R M (pc + 1) lo ((1, a / 2 ^ b.toNat) :: sk) z_n μ d Q) : z_R M pc lo ((0, b) :: (1, a) :: sk) z_n μ d Q := z_lushr hd h0.1 h0.2 h3 h
theorem n_istore_n {k : Fin 4} (hd : decode M.2.1 pc = .ok (.istore_n k, 1)) (hi : (k : Nat) < lo.length ∧ (k : Nat) < M.2.2.1) (hl : z_stl lo k (0, x) = lo') (h : z_R M (pc + 1) lo' sk z_n μ d Q) : z_R M pc lo ((0, x) :: sk) z_n μ d Q := by
  subst hl
  exact z_istore_n hd hi.1 hi.2 h
theorem n_istore {j : Nat} (hd : decode M.2.1 pc = .ok (.istore j, 2)) (hi : j < lo.length ∧ j < M.2.2.1) (hl : z_stl lo j (0, x) = lo') (h : z_R M (pc + 2) lo' sk z_n μ d Q) : z_R M pc lo ((0, x) :: sk) z_n μ d Q := by
  subst hl
  exact z_istore hd hi.1 hi.2 h
theorem n_lstore_n {k : Fin 4} (hd : decode M.2.1 pc = .ok (.lstore_n k, 1)) (hi : (k : Nat) < lo.length ∧ (k : Nat) + 1 < M.2.2.1) (hl : z_stl2 lo k (1, x) = lo') (h : z_R M (pc + 1) lo' sk z_n μ d Q) : z_R M pc lo ((1, x) :: sk) z_n μ d Q := by
  subst hl
  exact z_lstore_n hd hi.1 hi.2 h
theorem n_astore_n {k : Fin 4} (hd : decode M.2.1 pc = .ok (.astore_n k, 1)) (hx : x ≠ 0) (hi : (k : Nat) < lo.length ∧ (k : Nat) < M.2.2.1) (hl : z_stl lo k (2, x) = lo') (h : z_R M (pc + 1) lo' sk z_n μ d Q) : z_R M pc lo ((2, x) :: sk) z_n μ d Q := by
  subst hl
  exact z_astore_n hd hx hi.1 hi.2 h
theorem n_iinc {j : Nat} {n : Int} (hd : decode M.2.1 pc = .ok (.iinc j n, 3)) (hv : lo[j]? = some (some (0, x))) (hi2 : j < M.2.2.1) (hs : z_I (x + n)) (hl : z_stl lo j (0, x + n) = lo') (h : z_R M (pc + 3) lo' sk z_n μ d Q) : z_R M pc lo sk z_n μ d Q := by
  subst hl
  exact z_iinc hd hv hi2 hs h
end ZW

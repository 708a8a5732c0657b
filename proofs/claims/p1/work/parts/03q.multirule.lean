def z_mm (μ : z_Mem) (N n : Nat) : z_Mem := fun p i => if p = (N : Int) + 1 ∧ 0 ≤ i ∧ i < n then (N : Int) + 2 + i else μ p i
theorem z_sl_rows {k : Nat} : ∀ (n N : Nat), (∀ i, i < n → z_sh[N + i]? = some (14, k)) → z_sl N (N + n) = n * k
  | 0, N, _ => by rw [Nat.add_zero, z_sl_nil]; omega
  | n + 1, N, h => by
    have h1 := z_sl_rows n N (fun i hi => h i (by omega))
    have h2 := z_sl_one (h n (by omega))
    rw [← z_sl_add (show N ≤ N + n by omega) (show N + n ≤ N + (n + 1) by omega), h1, show N + (n + 1) = N + n + 1 by omega, h2, Nat.succ_mul]
section ZH
variable {M : z_M} {pc pc1 : Nat} {lo lo' : List (Option z_V)} {sk sk1 : List z_V} {w : z_W} {μ : z_Mem} {d N N1 M1 : Nat} {Q : Option z_V → z_Mem → Prop} {a b x y o i v : Int}
theorem z_multi {idx n k : Nat} (hd : decode M.2.1 pc = .ok (.multianewarray idx 2, 4)) (hcl : Cond.classLink M.1.cls idx "[[I" ∈ z_gw) (hov : Cond.arrayOver (.array .int) ∈ z_nw) (hac : Cond.arrayClass .int ∈ z_gw) (hsh : z_sh[N]? = some (19, n)) (hsr : ∀ i, i < n → z_sh[N + 1 + i]? = some (14, k)) (hn : n ≤ 1000) (hk0 : k ≤ 1000) (hN : N + 1 + n ≤ M1) (hfl : ∀ (i : Nat) (v : z_V), lo[i]? = some (some v) → z_fitv N v) (hfs : ∀ v ∈ sk, z_fitv N v) (hz : ∀ o i : Int, (N : Int) < o → o ≤ ((N + 1 + n : Nat) : Int) → μ o i = 0)
    (h : z_R M (pc + 4) lo ((2, (N : Int) + 1) :: sk) (N + 1 + n, M1, false) (z_mm μ N n) d Q) : z_R M pc lo ((0, (k : Int)) :: (0, (n : Int)) :: sk) (N, M1, false) μ d Q := by
  intro p l e R s m args below meth c H locs cells slots D cy ad A ls hC hG hr hh hl ha hb hk
  have hM : M1 ≤ 1000 := hr.2.2.2.1
  have c1 : (Int32.ofInt (k : Int)).toNatClampNeg = k := z_clamp ⟨by omega, by omega⟩
  have c2 : (Int32.ofInt (n : Int)).toNatClampNeg = n := z_clamp ⟨by omega, by omega⟩
  have nneg : ∀ q : Nat, q ≤ 1000 → ¬ Int32.ofInt (q : Int) < 0 := fun q hq h => by
    have := (z_lt32 (a := q) (b := 0) ⟨by omega, by omega⟩ z_I0).mp h
    omega
  have hs1 := z_sl_one hsh
  have hs2 := z_sl_rows n (N + 1) hsr
  have hs3 := z_sl_add (show N ≤ N + 1 by omega) (show N + 1 ≤ N + 1 + n by omega)
  have hcs : cells + (1 + n) ≤ R.cells ∧ slots + (n + n * k) ≤ R.slots := by
    obtain ⟨a1, a2, a3, a4, a5, a6⟩ := hr
    simp only at a3 a4 a5 a6
    have := z_sl_add (show N ≤ N + 1 + n by omega) hN
    omega
  have hcR : s.vm.findClass (FieldType.array .int).toString = some (cy 14) := (hG.2.2.1.2 1 (cy 14, .int) rfl).2
  have hcA0 : s.vm.findClass ("[" ++ (FieldType.array .int).toString) = some (cy 19) := (hG.2.2.1.2 6 (cy 19, .array .int) rfl).2
  refine z_Wmulti (own := M.1.cls) (n := Int32.ofInt (n : Int)) (k := Int32.ofInt (k : Int)) hC.1 hC.2.1 hC.2.2.2.2.1 (hG.1 _ hcl) (hG.2.1 _ hov) (hG.1 _ hac) hcR hd (nneg n hn) (nneg k hk0) (by rw [c2]; omega) (by rw [c1]; omega) (by rw [c2]; omega) (by rw [c1, c2]; omega) (fun cA H1 locs1 e1 e2 e3 e4 e5 e6 => ?_)
  rw [c1, c2]
  rw [c2] at e2 e4 e5
  rw [c1] at e5
  have hcA : cA = cy 19 := Option.some.inj (e1.symm.trans hcA0)
  subst hcA
  obtain ⟨hP, hD, hS, hAq⟩ := hh
  simp only at hP hD
  obtain ⟨ad1, had1⟩ : ∃ ad1 : Nat → Nat, ad1 = fun x => if x = N + 1 then H.size else if N + 1 < x ∧ x ≤ N + 1 + n then H.size + 1 + (x - (N + 2)) else ad x := ⟨_, rfl⟩
  have hadN : ad1 (N + 1) = H.size := by rw [had1]; exact if_pos rfl
  have hadR : ∀ i, i < n → ad1 (N + 2 + i) = H.size + 1 + i := fun i hi => by
    rw [had1]
    simp only
    rw [if_neg (by omega), if_pos (by omega)]
    omega
  have hado : ∀ x : Nat, ¬ (N < x ∧ x ≤ N + 1 + n) → ad1 x = ad x := fun x hx => by
    rw [had1]
    simp only
    rw [if_neg (by omega), if_neg (by omega)]
  have hold : ∀ j, j < N → z_cl cy ad1 (z_mm μ N n) j = z_cl cy ad μ j := by
    intro j hj
    unfold z_cl
    rw [hado (j + 1) (by omega), z_ent_eq (μ := μ) (fun i => if_neg (by omega))]
    have e9 : z_sh.getD j (99, 0) = (z_kd ((j : Int) + 1), (z_ln ((j : Int) + 1)).toNat) := by
      rw [← z_shd (by omega), show ((j : Int) + 1).toNat - 1 = j by omega]
    rw [e9]
    congr 1
    apply z_ent_ad
    intro i ht
    right
    have := hk.1 ((j : Int) + 1) i (by omega) (by show (j : Int) + 1 ≤ N; omega)
    rw [show z_tg ((j : Int) + 1) i = 2 from ht] at this
    have h2 : (0 : Int) ≤ μ ((j : Int) + 1) i ∧ μ ((j : Int) + 1) i ≤ N := this
    exact hado _ (by omega)
  have hlt : ∀ j, j < N → ad (j + 1) < H.size := fun j hj => (hP j _ (z_ws_get hj)).lt
  have hP1 : va_P D vwCl (z_ws cy ad1 (z_mm μ N n) (N + 1 + n)) H1 := by
    intro j q hq
    obtain ⟨hj, rfl⟩ := z_ws_some hq
    by_cases h1 : j < N
    · rw [hold j h1]
      exact (hP j _ (z_ws_get h1)).kept (e3 _ (hlt j h1))
    · by_cases h2 : j = N
      · subst h2
        unfold z_cl
        have e9 : z_sh.getD j (99, 0) = (19, n) := by rw [List.getD_eq_getElem?_getD, hsh, Option.getD_some]
        rw [e9, hadN, z_ent_a (by decide)]
        show H1[H.size]? = some (vp_cell _ _)
        rw [e4]
        show _ = some (arrV (cy 19) n (fun i : Nat => va_rf (z_rf ad1 (z_mm μ j n ((j : Int) + 1) i))))
        congr 1
        unfold arrV
        congr 2
        funext i
        have hi := i.isLt
        simp only
        rw [if_pos hi]
        unfold z_mm
        rw [if_pos ⟨rfl, by omega, by omega⟩]
        unfold z_rf
        rw [if_neg (by omega), show ((j : Int) + 2 + (i.val : Int)).toNat = j + 2 + i.val by omega, hadR _ hi]
      · obtain ⟨i, rfl⟩ : ∃ i, j = N + 1 + i := ⟨j - (N + 1), by omega⟩
        unfold z_cl
        have e9 : z_sh.getD (N + 1 + i) (99, 0) = (14, k) := by rw [List.getD_eq_getElem?_getD, hsr i (by omega), Option.getD_some]
        rw [e9, show N + 1 + i + 1 = N + 2 + i by omega, hadR i (by omega), z_ent_a (by decide)]
        show H1[H.size + 1 + i]? = some (vp_cell _ _)
        rw [e5 i (by omega)]
        show _ = some (arrV (cy 14) k (fun q : Nat => .int (Int32.ofInt (z_mm μ N n (((N + 1 + i : Nat) : Int) + 1) q))))
        congr 2
        funext q
        unfold z_mm
        rw [if_neg (by omega), hz _ _ (by omega) (by omega)]
        rfl
  have hsz := hS.1
  have haddr : ∀ j, j < N + 1 + n → (j < N ∧ ad1 (j + 1) = ad (j + 1) ∧ ad (j + 1) < H.size) ∨ (N ≤ j ∧ ad1 (j + 1) = H.size + (j - N)) := by
    intro j hj
    by_cases h1 : j < N
    · exact Or.inl ⟨h1, hado _ (by omega), hlt j h1⟩
    · right
      refine ⟨by omega, ?_⟩
      by_cases h2 : j = N
      · subst h2
        rw [hadN]
        omega
      · have := hadR (j - (N + 1)) (by omega)
        rw [show N + 2 + (j - (N + 1)) = j + 1 by omega] at this
        rw [this]
        omega
  have hD1 : va_D A (z_ws cy ad1 (z_mm μ N n) (N + 1 + n)) := by
    refine ⟨fun i j p q hp hq hpq => ?_, fun j q hq => ?_⟩
    · obtain ⟨hi, rfl⟩ := z_ws_some hp
      obtain ⟨hj, rfl⟩ := z_ws_some hq
      have hpq : ad1 (i + 1) = ad1 (j + 1) := hpq
      rcases haddr i hi with ⟨g1, g2, g3⟩ | ⟨g1, g2⟩ <;> rcases haddr j hj with ⟨f1, f2, f3⟩ | ⟨f1, f2⟩
      · exact hD.1 i j _ _ (z_ws_get g1) (z_ws_get f1) (by show ad (i + 1) = ad (j + 1); omega)
      · omega
      · omega
      · omega
    · obtain ⟨hj, rfl⟩ := z_ws_some hq
      show A (ad1 (j + 1))
      rcases haddr j hj with ⟨g1, g2, g3⟩ | ⟨g1, g2⟩
      · rw [g2]
        exact hD.2 j _ (z_ws_get g1)
      · rw [g2]
        exact hAq _ (by omega)
  have hS1 : va_S A s.heap H1 locs1 := ⟨by omega, fun q h1 h2 => (e3 q (by omega)).trans (hS.2.1 q h1 h2), fun q hq => by
    rcases e6 q hq with h1 | h1
    · exact hS.2.2 q h1
    · rw [h1]
      exact hAq _ hsz⟩
  have hok1 : z_ok (z_mm μ N n) (N + 1 + n, M1, false) := by
    refine ⟨fun o i g1 g2 => ?_, fun q => by cases q⟩
    unfold z_mm
    split
    · rename_i hq
      have t1 : z_tg o i = 2 := by
        have e9 := z_shd (o := o) (by omega)
        rw [hq.1, show ((N : Int) + 1).toNat - 1 = N by omega, List.getD_eq_getElem?_getD, hsh, Option.getD_some] at e9
        unfold z_tg
        rw [hq.1, ← (Prod.mk.inj e9).1]
        rfl
      rw [t1]
      show (0 : Int) ≤ _ ∧ _ ≤ _
      simp only
      omega
    · by_cases ho : o ≤ N
      · exact z_rng_mono (hk.1 o i g1 ho) (by show N ≤ N + 1 + n; omega)
      · rw [hz o i (by omega) g2]
        exact z_rng0
  have hall : z_all ((2, (N : Int) + 1) :: sk) := ⟨by show (0 : Int) ≤ _; omega, ha.2.2⟩
  have h9 := z_cont (l := l) (e := e) (below := below) (cells := cells) (slots := slots) h hC hG hr hl hb hall (by omega) hN hfl hado ⟨hP1, hD1, hS1, hAq⟩ hok1
  rw [show N + 1 + n - N = 1 + n by omega, List.map_cons, ← z_map_fit hfs hado (by omega) ha.2.2, z_rfp (by omega), show ((N : Int) + 1).toNat = N + 1 by omega, hadN] at h9
  rw [show cells + 1 + n = cells + (1 + n) by omega, show slots + n + n * k = slots + z_sl N (N + 1 + n) by omega]
  exact h9
end ZH

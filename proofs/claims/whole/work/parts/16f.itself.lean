/-! GLUINGS: itself, the reference -/
section IT
variable {N a b c k : Int} {u : Int → Int} {Q : (Int → Int) → Bool} {L : List (Int → Int)} {p : zP} {μ : z_Mem} {d : Nat} {K : Int → z_Mem → Prop} {Kn : z_Mem → Prop}
theorem zfi_no : ∀ (L : List (Int → Int)) (c : Int), (∀ u, u ∈ L → Q u = false) → zfi Q L c = -2
  | [], _, _ => rfl
  | u :: L, c, h => by
    show (if Q u = true then c else zfi Q L (c + 1)) = -2
    rw [h u List.mem_cons_self, if_neg (by decide)]
    exact zfi_no L (c + 1) (fun v hv => h v (List.mem_cons_of_mem _ hv))
theorem zow_V (hq : zow p u = true) (A : Int → Int) (v : zVa (zRN p) A u) : zVa (zRN p) A (zrP p) := zVa_ag (fun t t0 t1 => (zpd_i.mp hq) t t0 t1) v
theorem e12_isOwn (hv : zV p) (hw : zWo p) (hc : zMn' μ p) (hr : zRim μ p) (hN : zRN p ≤ 22) (hu : ∀ t, 0 ≤ t → t < zRN p → μ 142 t = u t) (hk : K (zi (zow p u)) μ) : z_ci m_X12_isOwn [(2, 113)] μ (d + 4) K := by
  have hN' : 2 * pF p + 2 ≤ 22 := hN
  have Fp := hw.1
  have key : ∀ k, 0 ≤ k → k ≤ 2 * pF p + 2 → (∀ t, 0 ≤ t → t < k → u t = zrP p t) → z_ri m_X12_isOwn 2 [some (2, 113), some (0, k)] μ (d + 4) K := by
    refine z_up (fun k k0 k1 ih hm => V_X12_isOwn_2 ?_)
    rw [hr.1]
    refine ⟨fun z => ?_, fun z => ⟨(by first | omega | exact ⟨by omega, by omega⟩), e12_partner hv hw hc hr ⟨k0, z⟩ ?_⟩⟩
    · have : zow p u = true := zpd_t (fun t t0 t1 => hm t t0 (by have : t < 2 * pF p + 2 := t1; omega))
      rw [this] at hk
      exact hk
    · rw [hu k k0 z]
      refine ⟨fun e => ⟨(by first | omega | exact ⟨by omega, by omega⟩), ih z (fun t t0 t1 => ?_)⟩, fun e => ?_⟩
      · by_cases y : t = k
        · rw [y]
          exact e
        · exact hm t t0 (by omega)
      · have : zow p u = false := zpd_f (fun x => e (x k k0 z))
        rw [this] at hk
        exact hk
  exact V_X12_isOwn (key 0 (by omega) (by omega) (fun t t0 t1 => by omega))
theorem e12_itself (hv : zV p) (hc : zMn' μ p) (h64 : z64 p) (hk : ∀ m, zfQ μ m → K (zaI p) m) : z_ci m_X12_itself [(2, 113)] μ (d + 34) K := by
  have F0 : 0 ≤ pF p ∧ pF p ≤ 30 := (zV_sk hv).1
  refine V_X12_itself (e12_laysGluings hv hc h64 (fun hw m f => ?_) (fun hw q m f _ => ?_) (fun hw q q1 => absurd q1 (by decide)) (fun hw q _ m1 f1 b1 => ?_))
  · have := hk m f
    rw [(zaG_n (a := 0) (b := 0) hw).2.1] at this
    exact ⟨fun z => absurd z (by decide), fun _ => this⟩
  · have := hk m f
    rw [(zaG_w hw).2, if_pos q] at this
    exact ⟨fun z => absurd z (by decide), fun _ => this⟩
  · have hN : 2 * pF p + 2 ≤ 22 := q
    have Fp := hw.1
    have l64 := h64 hw q
    have fin : ∀ m, zfQ μ m → K (zfi (zow p) (zgL p) 0) m := fun m f => by
      have := hk m f
      rw [(zaG_w hw).2, if_neg (by omega)] at this
      exact this
    refine ⟨fun _ => ?_, fun z => by omega⟩
    have hA : ∀ j, 0 ≤ j → j < 2 * pF p + 2 → 0 ≤ zrA p j ∧ zrA p j ≤ 120 := fun j j0 j1 => by
      have := zrA_r hv hw (k := j) ⟨j0, j1⟩
      omega
    have last : ∀ (suf pre : List (Int → Int)) (m : z_Mem), zgL p = pre ++ suf → zfQ μ m → zRim m p → zfi (zow p) (zgL p) 0 = zfi (zow p) suf pre.length → z_ri m_X12_itself 51 [some (2, 113), some (0, ((zgL p).length : Int)), some (0, (pre.length : Int))] m (d + 34) K := by
      intro suf
      induction suf with
      | nil =>
        intro pre m e f r hz
        refine V_X12_itself_51 ⟨fun _ => ?_, fun z => ?_⟩
        · have := fin m f
          rw [hz] at this
          exact this
        · rw [e, List.append_nil] at z
          omega
      | cons u suf ih =>
        intro pre m e f r hz
        have len : (zgL p).length = pre.length + (suf.length + 1) := by rw [e, List.length_append, List.length_cons]
        have eu : zlat (zgL p) ((pre.length : Int)).toNat = u := by
          rw [show ((pre.length : Int)).toNat = pre.length by omega, e]
          exact zlat_at pre
        refine V_X12_itself_51 ⟨fun z => by omega, fun z => ?_⟩
        refine e12_laysGluings hv (zfQ_c hc hv f) h64 (fun x => absurd hw x) (fun _ x => by omega) (fun _ _ q1 q2 m3 f3 r3 l3 => ?_) (fun _ _ x => by omega)
        rw [eu] at l3
        have f3' := zfQ_t f f3
        refine e12_isOwn hv hw (zfQ_c hc hv f3') r3 q l3.1 ?_
        have hz2 : zfi (zow p) (zgL p) 0 = if zow p u = true then (pre.length : Int) else zfi (zow p) suf ((pre.length : Int) + 1) := hz
        cases hq : zow p u with
        | true =>
          rw [hq, if_pos rfl] at hz2
          have := fin m3 f3'
          rw [hz2] at this
          exact ⟨fun x => absurd x (by decide), fun _ => this⟩
        | false =>
          rw [hq, if_neg (by decide)] at hz2
          refine ⟨fun _ => ⟨(by first | omega | exact ⟨by omega, by omega⟩), ?_⟩, fun x => absurd rfl x⟩
          have := ih (pre ++ [u]) m3 (by rw [e, List.append_assoc]; rfl) f3' r3 (by rw [hz2, List.length_append]; rfl)
          rw [List.length_append] at this
          exact this
    have key : ∀ k, 0 ≤ k → k ≤ 2 * pF p + 2 → ∀ m : z_Mem, (∀ o i, o ≠ 142 → m o i = m1 o i) → (∀ t, 0 ≤ t → t < k → m 142 t = zrP p t) → z_ri m_X12_itself 14 [some (2, 113), some (0, ((zgL p).length : Int)), some (0, k)] m (d + 34) K := by
      refine z_up (fun k k0 k1 ih m hf hm => V_X12_itself_14 ?_)
      have fm : zfQ μ m := fun x i a b c => by rw [hf x i (by omega)]; exact f1 x i a b c
      have rm : zRim m p := by
        refine ⟨by rw [hf 113 41 (by decide)]; exact b1.1, fun t t0 t1 => ?_⟩
        rw [hf 140 t (by decide), hf 141 t (by decide)]
        exact b1.2 t t0 t1
      rw [rm.1]
      refine ⟨fun z => ?_, fun z => e12_partner hv hw (zfQ_c hc hv fm) rm ⟨k0, z⟩ ⟨(by first | omega | exact ⟨by omega, by omega⟩), (by first | omega | exact ⟨by omega, by omega⟩), ih z _ (fun o i x => by rw [z_st_ne x]; exact hf o i x) (fun t t0 t1 => ?_)⟩⟩
      · obtain rfl : k = 2 * pF p + 2 := by omega
        refine e12_laysPoints (N := zRN p) (w := zrP p) (A := zrA p) rm.1 ⟨by show 0 < 2 * pF p + 2; omega, q⟩ (fun t t0 t1 => ⟨hm t t0 t1, (zrP_r hv hw ⟨t0, t1⟩).1⟩) (fun t t0 t1 => ⟨(rm.2 t t0 t1).2, hA t t0 t1⟩) (fun m5 S f5 P5 s5 => ?_)
        have f5' : zfQ μ m5 := fun x i a b c => by rw [f5 x i (by omega) (by omega)]; exact fm x i a b c
        by_cases va : zVa (zRN p) (zrA p) (zrP p)
        · rw [zpd_t va]
          refine ⟨fun _ => ?_, fun z => absurd z (by decide)⟩
          have r5 : zRim m5 p := by
            refine ⟨by rw [f5 113 41 (by decide) (by decide)]; exact rm.1, fun t t0 t1 => ?_⟩
            rw [f5 140 t (by decide) (by decide), f5 141 t (by decide) (by decide)]
            exact rm.2 t t0 t1
          exact last (zgL p) [] m5 rfl f5' r5 rfl
        · rw [zpd_f va]
          refine ⟨fun z => absurd rfl z, fun _ => ?_⟩
          have := fin m5 f5'
          rw [zfi_no _ _ (fun u hu => ?_)] at this
          · exact this
          · cases hq : zow p u with
            | false => rfl
            | true => exact absurd (zow_V hq _ (zgL_el hw u hu).2) va
      · by_cases y : t = k
        · rw [y, z_st_eq]
        · rw [z_st_ni y]
          exact hm t t0 (by omega)
    exact key 0 (by omega) (by omega) m1 (fun _ _ _ => rfl) (fun t t0 t1 => by omega)
end IT

/-! THE WALK round a tree, told by tables -/
noncomputable def zq_g (T k : Nat) : Nat := Nat.land (Nat.shiftRight T (Nat.mul 6 k)) 63
noncomputable def zq_h (ED m k : Nat) : Bool := Nat.beq (Nat.land (Nat.shiftRight m (zq_g ED k)) 1) 1
noncomputable def zq_w (NX NA ED m c0 : Nat) (f : Nat) : Nat → Nat → List Nat → List Nat :=
  Nat.rec (fun _ _ acc => acc) (fun f ih k n acc => cond (zq_h ED m k) (ih (zq_g NA k) (Nat.succ n) acc) (cond (Nat.beq k c0) (cond (Nat.beq f 0) (n :: acc) []) (ih (zq_g NX k) 1 (n :: acc)))) f
noncomputable def zq_c (ED m : Nat) (f : Nat) : Nat → Nat :=
  Nat.rec (fun k => k) (fun _ ih k => cond (zq_h ED m k) (ih (Nat.succ k)) k) f
noncomputable def zq_k (NX NA ED N M m : Nat) : Bool := (fun c0 : Nat => (fun l : List Nat => zq_e N (List.append l l) (Nat.mul 2 N) 0 [] []) (zq_w NX NA ED m c0 M (zq_g NX c0) 1 [])) (zq_c ED m M 0)
section WK
variable {NX NA ED m c0 M : Nat} {p : zP} {φ : Nat → Int} {i t : Int}
/-- the cuts, round and round -/
def zEx (p : zP) (i : Int) : Int := if i < zRN p then zrt p i else 4 * pF p + zrt p (i - zRN p)
theorem zta_per (hv : zV p) (hw : zWo p) : ∀ n : Nat, zta p (4 * pF p + n) = zta p n
  | 0 => by
    rw [show 4 * pF p + ((0 : Nat) : Int) = 4 * pF p by omega]
    exact (zrim hv hw).2.2.2.1
  | n + 1 => by
    have Fp := hw.1
    rw [show 4 * pF p + ((n + 1 : Nat) : Int) = (4 * pF p + n) + 1 by omega, zta_s (by omega), zta_per hv hw n, ← zta_s (by omega)]
    rfl
theorem zEx_nx (hv : zV p) (hw : zWo p) (hi : 0 ≤ i ∧ i < 2 * zRN p - 1) : zEx p i < zEx p (i + 1) ∧ zEx p (i + 1) - zEx p i = zrA p ((i + 1) % zRN p) ∧ (∀ t, zEx p i < t → t < zEx p (i + 1) → zct p t = false) ∧ zct p (zEx p (i + 1)) = true := by
  have Fp := hw.1
  have hN : zRN p = 2 * pF p + 2 := rfl
  have z0 := zrt_0 hv hw
  have per : ∀ t, 4 * pF p ≤ t → zct p t = zct p (t - 4 * pF p) := fun t ht => by
    have := zta_per hv hw (t - 4 * pF p).toNat
    unfold zct
    rw [show 4 * pF p + (((t - 4 * pF p).toNat : Nat) : Int) = t by omega, show (((t - 4 * pF p).toNat : Nat) : Int) = t - 4 * pF p by omega] at this
    rw [this]
  have base : ∀ k, 0 ≤ k → k < zRN p → (zrt p k < znt p k ∧ znt p k ≤ 4 * pF p) ∧ (∀ t, zrt p k < t → t < znt p k → zct p t = false) ∧ zct p (znt p k) = true ∧ znt p k - zrt p k = zrA p ((k + 1) % zRN p) := fun k k0 k1 => by
    obtain ⟨a1, a2, a3, a4⟩ := znt_p hv hw (k := k) ⟨k0, k1⟩
    refine ⟨⟨a1, a2⟩, a3, ?_, ?_⟩
    · unfold zct
      rw [a4]
      rfl
    · unfold znt zrA
      by_cases q : k + 1 < 2 * pF p + 2
      · rw [if_pos q, hN, Int.emod_eq_of_lt (by omega) q, if_neg (by omega), show k + 1 - 1 = k by omega]
      · have k1' : k < 2 * pF p + 2 := k1
        rw [if_neg q, hN, show k + 1 = 2 * pF p + 2 by omega, Int.emod_self, if_pos rfl, show 2 * pF p + 1 = k by omega]
  unfold zEx
  by_cases q : i < zRN p
  · obtain ⟨⟨b1, b2⟩, b3, b4, b5⟩ := base i hi.1 q
    have en : (if i + 1 < zRN p then zrt p (i + 1) else 4 * pF p + zrt p (i + 1 - zRN p)) = znt p i := by
      unfold znt
      by_cases q2 : i + 1 < zRN p
      · rw [if_pos q2, if_pos q2]
      · rw [if_neg q2, if_neg q2, show i + 1 - zRN p = 0 by omega, z0]
        omega
    rw [en, if_pos q]
    exact ⟨b1, b5, b3, b4⟩
  · obtain ⟨⟨b1, b2⟩, b3, b4, b5⟩ := base (i - zRN p) (by omega) (by omega)
    have en : (if i + 1 < zRN p then zrt p (i + 1) else 4 * pF p + zrt p (i + 1 - zRN p)) = 4 * pF p + znt p (i - zRN p) := by
      unfold znt
      rw [if_neg (by omega), if_pos (by omega), show i - zRN p + 1 = i + 1 - zRN p by omega]
    have r0 := (zrt_p hv hw (k := i - zRN p) ⟨by omega, by omega⟩).1
    rw [en, if_neg q]
    refine ⟨by omega, ?_, fun t t0 t1 => ?_, ?_⟩
    · rw [show (i + 1) % zRN p = (i - zRN p + 1) % zRN p by rw [show i + 1 = i - zRN p + 1 + zRN p by omega, Int.add_emod_right], ← b5]
      omega
    · rw [per t (by omega)]
      exact b3 _ (by omega) (by omega)
    · rw [per _ (by omega), show 4 * pF p + znt p (i - zRN p) - 4 * pF p = znt p (i - zRN p) by omega]
      exact b4
theorem zq_w_s (f k n : Nat) (acc : List Nat) : zq_w NX NA ED m c0 (f + 1) k n acc = cond (zq_h ED m k) (zq_w NX NA ED m c0 f (zq_g NA k) (Nat.succ n) acc) (cond (Nat.beq k c0) (cond (Nat.beq f 0) (n :: acc) []) (zq_w NX NA ED m c0 f (zq_g NX k) 1 (n :: acc))) := rfl
theorem zwalk (hv : zV p) (hw : zWo p) (hM : (M : Int) = 4 * pF p) (Hi : ∀ k k', k < M → k' < M → φ k = φ k' → k = k') (Hn : ∀ k, k < M → zq_g NX k < M ∧ φ (zq_g NX k) = znx (φ k)) (Ha : ∀ k, k < M → zq_g NA k < M ∧ φ (zq_g NA k) = znx (pa p (φ k))) (Hh : ∀ k, k < M → zq_h ED m k = pH p (pe p (φ k))) (Hr : ∀ k, k < M → 0 ≤ φ k ∧ φ k < 4 * pF p) (hc : c0 < M) (cc : pH p (pe p (φ c0)) = false) : ∃ r0 : Int, (0 ≤ r0 ∧ r0 < zRN p) ∧ zAc (fun j => (zrA p ((r0 + j + 1) % zRN p)).toNat) (zRN p).toNat (zq_w NX NA ED m c0 M (zq_g NX c0) 1 []) := by
  have Fp := hw.1
  have hN : zRN p = 2 * pF p + 2 := rfl
  obtain ⟨z1, z2, z3, z4, z5, z6, z7, z8⟩ := zrim hv hw
  obtain ⟨t0, ta, tb, tc⟩ := z6 _ (Hr c0 hc).1 (Hr c0 hc).2
  have ct0 : zct p t0 = true := by
    unfold zct
    rw [tc, cc]
    rfl
  -- the number of that cut
  have r0e := zrN_r hv hw (s := φ c0) (Hr c0 hc) cc
  refine ⟨zrN p (φ c0), r0e.1, ?_⟩
  have rt0 : zrt p (zrN p (φ c0)) = t0 := by
    have := r0e.2
    unfold zrS at this
    have rr := (zrt_p hv hw (k := zrN p (φ c0)) r0e.1).1
    exact z5 _ _ rr.1 rr.2 ta tb (by rw [this, tc])
  generalize zrN p (φ c0) = r0 at r0e rt0
  have E0 : zEx p r0 = t0 := by
    unfold zEx
    rw [if_pos r0e.1.2]
    exact rt0
  have EN : zEx p (r0 + zRN p) = t0 + 4 * pF p := by
    unfold zEx
    rw [if_neg (by omega), show r0 + zRN p - zRN p = r0 by omega, rt0]
    omega
  have back : ∀ x, t0 < x → x < t0 + 4 * pF p → zta p x ≠ zta p t0 := fun x x0 x1 e => by
    by_cases q : x < 4 * pF p
    · have := z5 x t0 (by omega) q ta tb e
      omega
    · have pr := zta_per hv hw (x - 4 * pF p).toNat
      rw [show 4 * pF p + (((x - 4 * pF p).toNat : Nat) : Int) = x by omega, show (((x - 4 * pF p).toNat : Nat) : Int) = x - 4 * pF p by omega] at pr
      rw [pr] at e
      have := z5 (x - 4 * pF p) t0 (by omega) (by omega) ta tb e
      omega
  have go : ∀ (f k n : Nat) (acc : List Nat) (j : Nat) (x : Int), k < M → (f : Int) = t0 + 4 * pF p - x + 1 → t0 < x → x ≤ t0 + 4 * pF p → φ k = zta p x → (j : Int) < zRN p → zEx p (r0 + j) < x → x ≤ zEx p (r0 + j + 1) → (n : Int) = x - zEx p (r0 + j) → zAc (fun j => (zrA p ((r0 + j + 1) % zRN p)).toNat) j acc → zAc (fun j => (zrA p ((r0 + j + 1) % zRN p)).toNat) (zRN p).toNat (zq_w NX NA ED m c0 f k n acc) := by
    intro f
    induction f with
    | zero => intro k n acc j x _ hf; omega
    | succ f ih =>
      intro k n acc j x hk hf x0 x1 hx hj e1 e2 hn ha
      obtain ⟨g1, g2, g3, g4⟩ := zEx_nx hv hw (i := r0 + j) ⟨by omega, by omega⟩
      have hcx : zct p x = !zq_h ED m k := by
        rw [Hh k hk, hx]
        rfl
      rw [zq_w_s]
      by_cases q : x = zEx p (r0 + j + 1)
      · have hz : zq_h ED m k = false := by
          rw [q, g4] at hcx
          cases hh : zq_h ED m k with
          | false => rfl
          | true => rw [hh] at hcx; cases hcx
        rw [hz]
        have an : n = (zrA p ((r0 + j + 1) % zRN p)).toNat := by
          rw [← g2]
          omega
        by_cases q2 : x = t0 + 4 * pF p
        · have kc : k = c0 := Hi k c0 hk hc (by
            rw [hx, q2, ← tc]
            have pr := zta_per hv hw t0.toNat
            rw [show ((t0.toNat : Nat) : Int) = t0 by omega] at pr
            rw [show t0 + 4 * pF p = 4 * pF p + t0 by omega]
            exact pr)
          have f0 : f = 0 := by omega
          rw [kc, f0, Nat.beq_refl]
          show zAc _ (zRN p).toNat (n :: acc)
          have jN : j + 1 = (zRN p).toNat := by
            -- the cuts behind that one lie behind
            have mono : ∀ d : Nat, r0 + j + 1 + d ≤ 2 * zRN p - 1 → zEx p (r0 + j + 1) ≤ zEx p (r0 + j + 1 + d) ∧ (0 < d → zEx p (r0 + j + 1) < zEx p (r0 + j + 1 + d)) := by
              intro d
              induction d with
              | zero => intro _; exact ⟨by rw [show r0 + j + 1 + ((0 : Nat) : Int) = r0 + j + 1 by omega]; exact Int.le_refl _, fun z => absurd z (by decide)⟩
              | succ d ihd =>
                intro hd
                have a := ihd (by omega)
                have b := (zEx_nx hv hw (i := r0 + j + 1 + d) ⟨by omega, by omega⟩).1
                rw [show r0 + j + 1 + ((d + 1 : Nat) : Int) = r0 + j + 1 + d + 1 by omega]
                exact ⟨by omega, fun _ => by omega⟩
            have m := mono (zRN p - 1 - j).toNat (by omega)
            rw [show r0 + j + 1 + (((zRN p - 1 - j).toNat : Nat) : Int) = r0 + zRN p by omega, EN] at m
            rcases Nat.eq_zero_or_pos (zRN p - 1 - j).toNat with z | z
            · omega
            · have := m.2 z
              omega
          rw [← jN]
          exact ⟨an, ha⟩
        · have kc : Nat.beq k c0 = false := by
            cases hh : Nat.beq k c0 with
            | false => rfl
            | true =>
              have := Nat.eq_of_beq_eq_true hh
              rw [this, ← tc] at hx
              exact absurd hx.symm (back x x0 (by omega))
          rw [kc]
          show zAc _ _ (zq_w NX NA ED m c0 f (zq_g NX k) 1 (n :: acc))
          have jl : ((j + 1 : Nat) : Int) < zRN p := by
            refine Classical.byContradiction fun z => ?_
            rw [show r0 + j + 1 = r0 + zRN p by omega, EN] at q
            exact q2 q
          obtain ⟨n1, n2⟩ := Hn k hk
          refine ih (zq_g NX k) 1 (n :: acc) (j + 1) (x + 1) n1 (by omega) (by omega) (by omega) ?_ jl ?_ ?_ ?_ ⟨an, ha⟩
          · rw [n2, zta_s (by omega), hx]
            rw [zpi_cut (by rw [← hx, ← Hh k hk]; exact hz)]
          · rw [show r0 + ((j + 1 : Nat) : Int) = r0 + j + 1 by omega]
            omega
          · have := (zEx_nx hv hw (i := r0 + j + 1) ⟨by omega, by omega⟩).1
            rw [show r0 + ((j + 1 : Nat) : Int) + 1 = r0 + j + 1 + 1 by omega]
            omega
          · rw [show r0 + ((j + 1 : Nat) : Int) = r0 + j + 1 by omega]
            omega
      · have hz : zq_h ED m k = true := by
          rw [g3 x e1 (by omega)] at hcx
          cases hh : zq_h ED m k with
          | false => rw [hh] at hcx; cases hcx
          | true => rfl
        rw [hz]
        show zAc _ _ (zq_w NX NA ED m c0 f (zq_g NA k) (Nat.succ n) acc)
        obtain ⟨n1, n2⟩ := Ha k hk
        have xl : x < t0 + 4 * pF p := by
          refine Classical.byContradiction fun z => ?_
          have : zct p x = true := by
            rw [show x = zEx p (r0 + zRN p) by rw [EN]; omega]
            have := (zEx_nx hv hw (i := r0 + zRN p - 1) ⟨by omega, by omega⟩).2.2.2
            rw [show r0 + zRN p - 1 + 1 = r0 + zRN p by omega] at this
            exact this
          rw [this, hz] at hcx
          cases hcx
        refine ih (zq_g NA k) (Nat.succ n) acc j (x + 1) n1 (by omega) (by omega) (by omega) ?_ hj (by omega) (by omega) (by omega) ha
        rw [n2, zta_s (by omega), hx, zpi_hinge (by rw [← hx, ← Hh k hk]; exact hz)]
  obtain ⟨n1, n2⟩ := Hn c0 hc
  have g0 := (zEx_nx hv hw (i := r0) ⟨by omega, by omega⟩).1
  refine go M (zq_g NX c0) 1 [] 0 (t0 + 1) n1 (by omega) (by omega) (by omega) ?_ (by omega) (by rw [show r0 + ((0 : Nat) : Int) = r0 by omega]; omega) (by rw [show r0 + ((0 : Nat) : Int) + 1 = r0 + 1 by omega]; omega) (by rw [show r0 + ((0 : Nat) : Int) = r0 by omega]; omega) rfl
  rw [n2, zta_s ta, tc, zpi_cut cc]
end WK

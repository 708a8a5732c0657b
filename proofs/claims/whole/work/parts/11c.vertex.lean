/-! VERTICES: points of the skin; CUT EDGES at one -/
theorem zch1 : ∀ d : Fin 6, ∀ l : Fin 6, (d.val : Int) / 2 ≠ (l.val : Int) / 2 → zlk (l.val : Int) ((zsd (l.val : Int) (d.val : Int) + 3) % 4) = zlk (d.val : Int) ((zsd (d.val : Int) (l.val : Int) + 1) % 4) := by decide +kernel
theorem zch2 : ∀ d : Fin 6, ∀ l : Fin 6, (d.val : Int) / 2 ≠ (l.val : Int) / 2 → zlk (d.val : Int) ((zsd (d.val : Int) (zx (l.val : Int)) + 3) % 4) = zlk (d.val : Int) ((zsd (d.val : Int) (l.val : Int) + 1) % 4) := by decide +kernel
theorem zch3 : ∀ d : Fin 6, ∀ l : Fin 6, (d.val : Int) / 2 ≠ (l.val : Int) / 2 → zlk (zx (l.val : Int)) ((zsd (zx (l.val : Int)) (zx (d.val : Int)) + 3) % 4) = zlk (d.val : Int) ((zsd (d.val : Int) (l.val : Int) + 1) % 4) := by decide +kernel
theorem zch4 : ∀ d : Fin 6, ∀ l : Fin 6, (d.val : Int) / 2 ≠ (l.val : Int) / 2 → zlk (d.val : Int) ((zsd (d.val : Int) (l.val : Int) + 3) % 4) = zx (zlk (d.val : Int) ((zsd (d.val : Int) (l.val : Int) + 1) % 4)) := by decide +kernel
theorem zch5 : ∀ d : Fin 6, ¬ (zst (d.val : Int) 0 = 0 ∧ zst (d.val : Int) 1 = 0 ∧ zst (d.val : Int) 2 = 0) := by decide +kernel
theorem zfin {P : Int → Int → Prop} (h : ∀ d : Fin 6, ∀ l : Fin 6, (d.val : Int) / 2 ≠ (l.val : Int) / 2 → P (d.val : Int) (l.val : Int)) {d l : Int} (hp : zpp d l) : P d l := by
  obtain ⟨a, b, c, e, f⟩ := hp
  have := h ⟨d.toNat, by omega⟩ ⟨l.toNat, by omega⟩
  have e1 : (((⟨d.toNat, by omega⟩ : Fin 6).val : Nat) : Int) = d := by show ((d.toNat : Nat) : Int) = d; omega
  have e2 : (((⟨l.toNat, by omega⟩ : Fin 6).val : Nat) : Int) = l := by show ((l.toNat : Nat) : Int) = l; omega
  rw [e1, e2] at this
  exact this f
/-- the point of a corner (twice, from the midst of cube 0), along an axis -/
def zpt3 (s : Int → Int) (c d l l2 x : Int) : Int := 2 * s (3 * c + x) + zst d x + zst l x + zst l2 x
def zpt (s : Int → Int) (n k x : Int) : Int := zpt3 s (zcu s n (k / 4)) (zdi s n (k / 4)) (zlk (zdi s n (k / 4)) (k % 4)) (zlk (zdi s n (k / 4)) ((k + 1) % 4)) x
section VX
variable {a b c k v r f : Int} {s : Int → Int} {n : Int} {p : zP} {μ μ0 : z_Mem} {d : Nat} {K : Int → z_Mem → Prop} {Kn : z_Mem → Prop}
theorem zso_m {D l : Int} (h : zpp D l) : zso s n c D l % 4 = zsd D l := by
  have := zsd_p h
  unfold zso
  omega
theorem zpt_so {D l x : Int} (h : zsl s n c D l) : zpt s n (zso s n c D l) x = zpt3 s c D l (zlk D ((zsd D l + 1) % 4)) x := by
  obtain ⟨_, _, r1, r2, r3, r4⟩ := zso_r h
  have e := zso_m (s := s) (n := n) (c := c) h.2.1
  unfold zpt
  rw [r1, r2, r3, show (zso s n c D l + 1) % 4 = (zsd D l + 1) % 4 by omega]
theorem zpt_pv {D l x : Int} (h : zsl s n c D l) : zpt s n (zpv (zso s n c D l)) x = zpt3 s c D (zlk D ((zsd D l + 3) % 4)) l x := by
  obtain ⟨q1, q2, r1, r2, r3, r4⟩ := zso_r h
  have e := zso_m (s := s) (n := n) (c := c) h.2.1
  have e1 : zpv (zso s n c D l) / 4 = zso s n c D l / 4 := znx_pv.2.2.2
  have e2 : zpv (zso s n c D l) % 4 = (zsd D l + 3) % 4 := by unfold zpv; omega
  have e3 : (zpv (zso s n c D l) + 1) % 4 = zso s n c D l % 4 := by unfold zpv; omega
  unfold zpt
  rw [e1, r1, r2, e2, e3, r3]
theorem zpt_ps (hn : 0 ≤ n) (hD : zDs s n) (hk : 0 ≤ k ∧ k < 4 * zFs s n) {x : Int} (hx : x = 0 ∨ x = 1 ∨ x = 2) : zpt s n (zps (zac s n) k) x = zpt s n k x := by
  obtain ⟨h1, h2⟩ := zsl_of hn hk
  generalize zcu s n (k / 4) = C at *
  generalize zdi s n (k / 4) = D at *
  generalize zlk D (k % 4) = l at *
  rw [← h2, zpt_so h1]
  unfold zps
  rw [zac_so h1]
  obtain ⟨hc, hp, hf⟩ := id h1
  have hd : 0 ≤ D ∧ D < 6 := ⟨hp.1, hp.2.1⟩
  have hl : 0 ≤ l ∧ l < 6 := ⟨hp.2.2.1, hp.2.2.2.1⟩
  have xd := zx_st (c := x) hd
  have xl := zx_st (c := x) hl
  unfold zar
  by_cases g : zk s n C D l = -1
  · rw [if_pos g]
    by_cases g2 : zk s n C l (-1) = -1
    · rw [if_pos g2]
      have hs : zsl s n C l D := ⟨hc, (zpp_x hp).2.2, (zfr_iff hn hl).mpr ((zk_no hn).mp g2)⟩
      rw [zpt_pv hs, zfin (P := fun d l => zlk l ((zsd l d + 3) % 4) = zlk d ((zsd d l + 1) % 4)) zch1 hp]
      unfold zpt3
      omega
    · rw [if_neg g2]
      have hs := zar_sl1 h1 g g2
      rw [zpt_pv hs, zfin (P := fun d l => zlk d ((zsd d (zx l) + 3) % 4) = zlk d ((zsd d l + 1) % 4)) zch2 hp]
      have b := zat_to (zk_y hn g2).2
      have m0 := zst_n x
      have m00 := zst_n 0
      have m01 := zst_n 1
      have m02 := zst_n 2
      unfold zpt3
      rcases hx with rfl | rfl | rfl <;> omega
  · rw [if_neg g]
    have hs := zar_sl2 h1 g
    rw [zpt_pv hs, zfin (P := fun d l => zlk (zx l) ((zsd (zx l) (zx d) + 3) % 4) = zlk d ((zsd d l + 1) % 4)) zch3 hp]
    have b := zat_to (zk_y hn g).2
    unfold zpt3
    rcases hx with rfl | rfl | rfl <;> omega
theorem zvx_ne (hn : 0 ≤ n) (hD : zDs s n) (hk : 0 ≤ k ∧ k < 4 * zFs s n) : zvX s n k ≠ zvX s n (zpv k) := by
  have hA := zA_ac hn hD
  have hp := zPm_ph hA
  intro he
  have kv := (znx_r hk).2
  have o := (zvx_iff hp hk kv).mp he
  have key : ∀ x, (x = 0 ∨ x = 1 ∨ x = 2) → zpt s n (zpv k) x = zpt s n k x := fun x hx => by
    have := o (fun j => (0 ≤ j ∧ j < 4 * zFs s n) ∧ zpt s n j x = zpt s n k x) ⟨hk, rfl⟩ (fun c c0 c1 hc => by
      obtain ⟨p1, p2, p3, p4⟩ := hp c c0 c1
      refine ⟨⟨p1, ?_⟩, ⟨p2, ?_⟩⟩
      · have := zpt_ps hn hD p1 hx
        rw [p3, hc.2] at this
        exact this.symm
      · rw [zpt_ps hn hD ⟨c0, c1⟩ hx]
        exact hc.2)
    exact this.2
  obtain ⟨h1, h2⟩ := zsl_of hn hk
  generalize zcu s n (k / 4) = C at *
  generalize zdi s n (k / 4) = D at *
  generalize zlk D (k % 4) = l at *
  rw [← h2] at key
  have pp := h1.2.1
  have c4 := zfin (P := fun d l => zlk d ((zsd d l + 3) % 4) = zx (zlk d ((zsd d l + 1) % 4))) zch4 pp
  have lr := (zlk_p (d := D) (t := (zsd D l + 1) % 4) ⟨pp.1, pp.2.1⟩ (by omega)).1
  have c5 := fun (j : Int) (hj : 0 ≤ j ∧ j < 6) => by
    have := zch5 ⟨j.toNat, by omega⟩
    have e1 : (((⟨j.toNat, by omega⟩ : Fin 6).val : Nat) : Int) = j := by show ((j.toNat : Nat) : Int) = j; omega
    rw [e1] at this
    exact this
  have lr2 : 0 ≤ zlk D ((zsd D l + 1) % 4) ∧ zlk D ((zsd D l + 1) % 4) < 6 := ⟨lr.2.2.1, lr.2.2.2.1⟩
  refine c5 _ lr2 ?_
  have z : ∀ x, (x = 0 ∨ x = 1 ∨ x = 2) → zst (zlk D ((zsd D l + 1) % 4)) x = 0 := fun x hx => by
    have := key x hx
    rw [zpt_pv h1, zpt_so h1, c4] at this
    unfold zpt3 at this
    rw [zx_st lr2] at this
    omega
  exact ⟨z 0 (by omega), z 1 (by omega), z 2 (by omega)⟩
/-! sums over sides, by EDGES -/
theorem zS_perm {g q q' : Int → Int} (N : Nat) (h : ∀ i : Int, 0 ≤ i → i < N → (0 ≤ q i ∧ q i < N) ∧ (0 ≤ q' i ∧ q' i < N) ∧ q' (q i) = i ∧ q (q' i) = i) : zS N (fun i => g (q i)) = zS N g := by
  have e1 : zS N (fun i => g (q i)) = zS N (fun i => zS N (fun j => zi (decide (q i = j)) * g j)) := by
    refine zS_eq N (fun i a b => ?_)
    obtain ⟨h1, _⟩ := h i a b
    rw [zS_one N (j := q i) h1 (fun j _ _ w => by rw [zi_f (decide_eq_false (fun e => w e.symm)), Int.zero_mul])]
    rw [zi_t (decide_eq_true rfl), Int.one_mul]
  rw [e1, zS_swap]
  refine zS_eq N (fun j a b => ?_)
  obtain ⟨h1, h2, h3, h4⟩ := h j a b
  rw [zS_one N (j := q' j) h2 (fun i i0 i1 w => by
    rw [zi_f (decide_eq_false (fun e => w (by rw [← e, (h i i0 i1).2.2.1]))), Int.zero_mul])]
  rw [zi_t (decide_eq_true h4), Int.one_mul]
theorem zS_edges {F : Int} {ac ed es g : Int → Int} (sk : zSK F ac ed es) : zS (4 * F).toNat g = zS (2 * F).toNat (fun e => g (es e) + g (ac (es e))) := by
  have F0 := sk.1.1
  have e1 : zS (4 * F).toNat g = zS (4 * F).toNat (fun k => zS (2 * F).toNat (fun e => zi (decide (ed k = e)) * g k)) := by
    refine zS_eq _ (fun k a b => ?_)
    obtain ⟨_, _, _, s4, _⟩ := sk.2.1 k a (by omega)
    rw [zS_one _ (j := ed k) (by omega) (fun j _ _ w => by rw [zi_f (decide_eq_false (fun e => w e.symm)), Int.zero_mul])]
    rw [zi_t (decide_eq_true rfl), Int.one_mul]
  rw [e1, zS_swap]
  refine zS_eq _ (fun e a b => ?_)
  obtain ⟨w1, w2, w3⟩ := sk.2.2 e a (by omega)
  obtain ⟨s1, s2, s3, s4, s5, s6⟩ := sk.2.1 (es e) w1.1 w1.2
  have e2 : zS (4 * F).toNat (fun k => zi (decide (ed k = e)) * g k) = zS (4 * F).toNat (fun k => zi (decide (k = es e)) * g k + zi (decide (k = ac (es e))) * g k) := by
    refine zS_eq _ (fun k k0 k1 => ?_)
    by_cases q1 : k = es e
    · rw [q1, w2, decide_eq_true rfl, decide_eq_true rfl, decide_eq_false (by omega)]
      show zi true * _ = zi true * _ + zi false * _
      have : zi false = 0 := rfl
      rw [this]
      omega
    · by_cases q2 : k = ac (es e)
      · rw [q2, s5, w2, decide_eq_true rfl, decide_eq_false (by omega), decide_eq_true rfl]
        show zi true * _ = zi false * _ + zi true * _
        have : zi false = 0 := rfl
        rw [this]
        omega
      · have : ed k ≠ e := fun w => by
          rcases zsame sk ⟨k0, by omega⟩ w1 (by rw [w, w2]) with x | x
          · exact q1 x
          · exact q2 x
        rw [decide_eq_false this, decide_eq_false q1, decide_eq_false q2]
        show zi false * _ = zi false * _ + zi false * _
        have : zi false = 0 := rfl
        rw [this]
        omega
  rw [e2, zS_add]
  rw [zS_one _ (j := es e) (by omega) (fun j _ _ w => by rw [zi_f (decide_eq_false w), Int.zero_mul])]
  rw [zS_one _ (j := ac (es e)) (by omega) (fun j _ _ w => by rw [zi_f (decide_eq_false w), Int.zero_mul])]
  rw [zi_t (decide_eq_true rfl), zi_t (decide_eq_true rfl), Int.one_mul, Int.one_mul]
noncomputable def zcv (p : zP) (v : Int) : Int := zN (2 * pF p).toNat (fun e => !pH p e && (decide (zvX (pS p) (pn p) (pq p e) = v) || decide (zvX (pS p) (pn p) (zpv (pq p e)) = v)))
theorem zcv_c (hv : zV p) : zN (4 * pF p).toNat (fun k => decide (zvX (pS p) (pn p) k = v) && !pH p (pe p (znx k))) = zcv p v := by
  have sk := zV_sk hv
  have F0 : 0 ≤ pF p ∧ pF p ≤ 30 := sk.1
  have hn := hv.1.1
  have hD := zSt_Ds hv.2.2.1
  have hA := zA_ac hn hD
  have hp := zPm_ph hA
  unfold zcv zN
  have e1 : zS (4 * pF p).toNat (fun k => zi (decide (zvX (pS p) (pn p) k = v) && !pH p (pe p (znx k)))) = zS (4 * pF p).toNat (fun k => (fun j => zi (decide (zvX (pS p) (pn p) (zpv j) = v) && !pH p (pe p j))) (znx k)) := zS_eq _ (fun k k0 k1 => by
    show _ = zi (decide (zvX (pS p) (pn p) (zpv (znx k)) = v) && !pH p (pe p (znx k)))
    rw [znx_pv.1])
  rw [e1, zS_perm (g := fun j => zi (decide (zvX (pS p) (pn p) (zpv j) = v) && !pH p (pe p j))) (q := znx) (q' := zpv) _ (fun i i0 i1 => by
    have := znx_r (c := i) (F := pF p) ⟨i0, by omega⟩
    exact ⟨by omega, by omega, znx_pv.1, znx_pv.2.1⟩), zS_edges sk]
  refine zS_eq _ (fun e e0 e1 => ?_)
  obtain ⟨w1, w2, w3⟩ := sk.2.2 e e0 (by omega)
  obtain ⟨s1, s2, s3, s4, s5, s6⟩ := sk.2.1 (pq p e) w1.1 w1.2
  have step : zvX (pS p) (pn p) (zpv (pa p (pq p e))) = zvX (pS p) (pn p) (pq p e) := by
    have r := (hp (pq p e) w1.1 w1.2)
    refine ((zvx_iff hp w1 r.2.1).mpr ?_).symm
    exact zOr_q w1 zOr_r
  have ne := zvx_ne hn hD (k := pq p e) w1
  show zi (decide (zvX (pS p) (pn p) (zpv (pq p e)) = v) && !pH p (pe p (pq p e))) + zi (decide (zvX (pS p) (pn p) (zpv (pa p (pq p e))) = v) && !pH p (pe p (pa p (pq p e)))) = zi (!pH p e && (decide (zvX (pS p) (pn p) (pq p e) = v) || decide (zvX (pS p) (pn p) (zpv (pq p e)) = v)))
  rw [step, s5, w2]
  cases pH p e with
  | true => simp [zi]
  | false =>
    by_cases q1 : zvX (pS p) (pn p) (pq p e) = v
    · rw [decide_eq_true q1, decide_eq_false (fun w => ne (by rw [q1, w]))]
      rfl
    · rw [decide_eq_false q1]
      by_cases q2 : zvX (pS p) (pn p) (zpv (pq p e)) = v
      · rw [decide_eq_true q2]
        rfl
      · rw [decide_eq_false q2]
        rfl
noncomputable def zaV (p : zP) (a b : Int) : Int := if 0 ≤ a ∧ a < zVs (pS p) (pn p) then (if b = 0 then zvR (pS p) (pn p) a else if b = 1 then 4 - zvR (pS p) (pn p) a else if b = 2 then zcv p a else -1) else -1
theorem zVs_le (hv : zV p) : 0 ≤ zVs (pS p) (pn p) ∧ zVs (pS p) (pn p) ≤ 120 := by
  have F0 : 0 ≤ pF p ∧ pF p ≤ 30 := (zV_sk hv).1
  have := zN_r (P := zil (zph (zac (pS p) (pn p))) (zps (zac (pS p) (pn p))) (4 * zFs (pS p) (pn p))) (4 * zFs (pS p) (pn p)).toNat
  have e : ((4 * zFs (pS p) (pn p)).toNat : Int) = 4 * pF p := by
    show ((4 * pF p).toNat : Int) = 4 * pF p
    omega
  unfold zVs
  omega
theorem zvR_le (hv : zV p) : 0 ≤ zvR (pS p) (pn p) a ∧ zvR (pS p) (pn p) a ≤ 120 := by
  have F0 : 0 ≤ pF p ∧ pF p ≤ 30 := (zV_sk hv).1
  have := zN_r (P := fun k => decide (zvX (pS p) (pn p) k = a)) (4 * zFs (pS p) (pn p)).toNat
  have e : ((4 * zFs (pS p) (pn p)).toNat : Int) = 4 * pF p := by
    show ((4 * pF p).toNat : Int) = 4 * pF p
    omega
  unfold zvR
  omega
theorem e_vertex (hv : zV p) (hc : zCn' μ p) (hk : K (zaV p a b) μ) : z_ci m_X11_vertex [(2, 1), (0, a), (0, b)] μ (d + 8) K := by
  have sk := zV_sk hv
  have F0 : 0 ≤ pF p ∧ pF p ≤ 30 := sk.1
  have G : zGc μ (pF p) (pa p) (pe p) (pq p) := zCK_G hc.1
  have eV : μ 6 11 = zVs (pS p) (pn p) := hc.1.2.2.2.2.1
  have Vl := zVs_le hv
  have Rl := zvR_le (a := a) hv
  unfold zaV at hk
  refine V_X11_vertex (e_isVertex (fun q => ?_) (fun q => ?_))
  · rw [eV] at q
    rw [if_neg q] at hk
    exact zy0 hk
  · rw [eV] at q
    rw [if_pos q] at hk
    have g := hc.1.2.2.2.2.2 a q.1 q.2
    rw [g]
    refine zy1 ⟨fun w => ⟨(by first | omega | exact ⟨by omega, by omega⟩), ?_⟩, fun w => ⟨(by first | omega | exact ⟨by omega, by omega⟩), (by first | omega | exact ⟨by omega, by omega⟩), ?_⟩, fun w => ?_, fun w => ?_⟩
    · rw [if_pos w] at hk
      exact hk
    · rw [if_neg (by omega), if_pos w] at hk
      exact hk
    · rw [if_neg (by omega), if_neg (by omega), if_pos w, ← zcv_c hv] at hk
      have key : ∀ j : Int, 0 ≤ j → j ≤ 4 * pF p → z_ri m_X11_cutsAt 4 [some (2, 1), some (0, a), some (0, zN j.toNat (fun k => decide (zvX (pS p) (pn p) k = a) && !pH p (pe p (znx k)))), some (0, j)] μ (d + 7) K := by
        refine z_up (fun j j0 j1 ih => V_X11_cutsAt_4 ?_)
        rw [G.1]
        have zr := zN_r (P := fun k => decide (zvX (pS p) (pn p) k = a) && !pH p (pe p (znx k))) j.toNat
        refine ⟨(by first | omega | exact ⟨by omega, by omega⟩), fun q3 => ?_, fun q3 => ⟨fun q4 => by omega, fun q4 => ⟨(by first | omega | exact ⟨by omega, by omega⟩), ?_⟩⟩⟩
        · obtain rfl : j = 4 * pF p := by omega
          exact hk
        · have := ih q3
          rw [zN_up j0] at this
          have ev : μ 15 j = zvX (pS p) (pn p) j := (hc.1.2.1 j j0 q3).2.2
          rw [ev]
          refine ⟨fun q5 => ⟨(by first | omega | exact ⟨by omega, by omega⟩), ?_⟩, fun q5 => e_nextSlot (by omega) ?_⟩
          · rw [decide_eq_false q5] at this
            have e : ∀ x : Int, x + zi (false && !pH p (pe p (znx j))) = x := fun x => by show x + 0 = x; omega
            rw [e] at this
            exact this
          · have nr := (znx_r (c := j) (F := pF p) ⟨j0, q3⟩).1
            obtain ⟨s1, s2, s3, s4, s5, s6⟩ := sk.2.1 _ nr.1 nr.2
            rw [(G.2.2.1 _ nr.1 nr.2).2]
            rw [decide_eq_true q5] at this
            refine ⟨(by first | omega | exact ⟨by omega, by omega⟩), e_isHinge zkd21 hc.2.1.1 (by omega) (fun hz => zy1 ⟨(by first | omega | exact ⟨by omega, by omega⟩), ?_⟩) (fun hz => zy0 ⟨(by first | omega | exact ⟨by omega, by omega⟩), (by first | omega | exact ⟨by omega, by omega⟩), ?_⟩)⟩
            · rw [hz] at this
              have e : ∀ x : Int, x + zi (true && !true) = x := fun x => by show x + 0 = x; omega
              rw [e] at this
              exact this
            · rw [hz] at this
              exact this
      exact V_X11_cutsAt (key 0 (by omega) (by omega))
    · rw [if_neg (by omega), if_neg (by omega), if_neg (by omega)] at hk
      exact hk
theorem e12_vertex (hv : zV p) (hc : zMn' μ p) (hk : K (zaV p a b) μ) : z_ci m_X12_vertex [(2, 113), (0, a), (0, b)] μ (d + 8) K := by
  have sk := zV_sk hv
  have F0 : 0 ≤ pF p ∧ pF p ≤ 30 := sk.1
  have G : zGm μ (pF p) (pa p) (pe p) (pq p) := zMK_G hc.1
  have eV : μ 113 23 = zVs (pS p) (pn p) := hc.1.2.2.2.2.1
  have Vl := zVs_le hv
  have Rl := zvR_le (a := a) hv
  unfold zaV at hk
  refine V_X12_vertex ?_
  rw [eV]
  refine ⟨(by first | omega | exact ⟨by omega, by omega⟩), e_in (fun q => zy0' ?_) (fun q => zy1' (e_in (fun q2 => zy0 ?_) (fun q2 => zy1 ?_)))⟩
  · rw [if_neg (by omega)] at hk
    exact hk
  · rw [if_pos (by omega), if_neg (by omega), if_neg (by omega), if_neg (by omega)] at hk
    exact hk
  · rw [if_pos (by omega)] at hk
    have g := hc.1.2.2.2.2.2 a q.1 (by omega)
    rw [g]
    refine ⟨fun w => ⟨fun w2 => ?_, fun w2 => ⟨(by first | omega | exact ⟨by omega, by omega⟩), (by first | omega | exact ⟨by omega, by omega⟩), ?_⟩⟩, fun w => ⟨(by first | omega | exact ⟨by omega, by omega⟩), ?_⟩⟩
    · rw [if_neg w, if_neg w2, if_pos (by omega)] at hk
      have key : ∀ j : Int, 0 ≤ j → j ≤ 2 * pF p → z_ri m_X12_cutsAt 4 [some (2, 113), some (0, a), some (0, zN j.toNat (fun e => !pH p e && (decide (zvX (pS p) (pn p) (pq p e) = a) || decide (zvX (pS p) (pn p) (zpv (pq p e)) = a)))), some (0, j), none] μ (d + 7) K := by
        refine z_up (fun j j0 j1 ih => V_X12_cutsAt_4 ?_)
        rw [G.2.1]
        have zr := zN_r (P := fun e => !pH p e && (decide (zvX (pS p) (pn p) (pq p e) = a) || decide (zvX (pS p) (pn p) (zpv (pq p e)) = a))) j.toNat
        refine ⟨fun q3 => ?_, fun q3 => ?_⟩
        · obtain rfl : j = 2 * pF p := by omega
          exact hk
        · have := ih q3
          rw [zN_up j0] at this
          obtain ⟨w1, w2', w3⟩ := zV_e hv (a := j) ⟨j0, q3⟩
          have pvr := (znx_r (F := pF p) w1).2
          have g1 := G.2.2.2 j j0 q3
          have ev : μ 128 (pq p j) = zvX (pS p) (pn p) (pq p j) := (hc.1.2.1 _ w1.1 w1.2).2.2.2.2
          have ev2 : μ 128 (zpv (pq p j)) = zvX (pS p) (pn p) (zpv (pq p j)) := (hc.1.2.1 _ pvr.1 pvr.2).2.2.2.2
          have epv : pq p j / 4 * 4 + (pq p j + 3) % 4 = zpv (pq p j) := by unfold zpv; omega
          refine ⟨(by first | omega | exact ⟨by omega, by omega⟩), e12_isHinge (zRwM_H hc.2) (by omega) (fun hz => zy1 (e_truth (fun _ => ⟨(by first | omega | exact ⟨by omega, by omega⟩), (by first | omega | exact ⟨by omega, by omega⟩), ?_⟩) (fun w => absurd rfl w))) (fun hz => zy0 ?_)⟩
          · rw [hz] at this
            exact this
          · rw [g1, ev, epv, ev2]
            rw [hz] at this
            refine ⟨(by first | omega | exact ⟨by omega, by omega⟩), fun w4 => e_truth (fun w => absurd w (by decide)) (fun _ => ⟨(by first | omega | exact ⟨by omega, by omega⟩), (by first | omega | exact ⟨by omega, by omega⟩), ?_⟩), fun w4 => ⟨(by first | omega | exact ⟨by omega, by omega⟩), (by first | omega | exact ⟨by omega, by omega⟩), (by first | omega | exact ⟨by omega, by omega⟩), (by first | omega | exact ⟨by omega, by omega⟩), (by first | omega | exact ⟨by omega, by omega⟩), (by first | omega | exact ⟨by omega, by omega⟩), fun w5 => e_truth (fun _ => ⟨(by first | omega | exact ⟨by omega, by omega⟩), (by first | omega | exact ⟨by omega, by omega⟩), ?_⟩) (fun w => absurd rfl w), fun w5 => e_truth (fun w => absurd w (by decide)) (fun _ => ⟨(by first | omega | exact ⟨by omega, by omega⟩), (by first | omega | exact ⟨by omega, by omega⟩), ?_⟩)⟩⟩
            · rw [decide_eq_true w4] at this
              exact this
            · rw [decide_eq_false w4, decide_eq_false w5] at this
              exact this
            · rw [decide_eq_false w4, decide_eq_true w5] at this
              exact this
      exact V_X12_cutsAt (key 0 (by omega) (by omega))
    · rw [if_neg w, if_pos w2] at hk
      exact hk
    · rw [if_pos w] at hk
      exact hk
end VX

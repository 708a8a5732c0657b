/-! TRADES: the class looks for the best -/
/-- among those that are done: none, or the least by OVERLAPS, EDGE, HINGE -/
def zBs' (p : zP) (D : Int → Int → Prop) (e h n : Int) : Prop := (e = -1 ∧ ∀ e' h', zTd p e' h' → ¬ D e' h') ∨ ((zTd p e h ∧ D e h) ∧ n = zoN (psT p e h) ∧ ∀ e' h', zTd p e' h' → D e' h' → n < zoN (psT p e' h') ∨ (n = zoN (psT p e' h') ∧ (e < e' ∨ (e = e' ∧ h ≤ h'))))
section LO
variable {a b c e h k v r f s x y w n : Int} {p : zP} {L : List Int} {ac ed es : Int → Int} {F : Int} {H S : Int → Bool} {μ μ0 : z_Mem} {d : Nat} {K : Int → z_Mem → Prop} {Kn : z_Mem → Prop}
theorem zmul_b {x c : Int} (hx : -60 ≤ x ∧ x ≤ 60) (hc : -1 ≤ c ∧ c ≤ 1) : -60 ≤ x * c ∧ x * c ≤ 60 := by
  rcases (by omega : c = -1 ∨ c = 0 ∨ c = 1) with w | w | w <;> (rw [w]; omega)
theorem zDn_of (hv : zV p) (hq : zQC μ p) (hS : ∀ f, S f = true → zPl p f = true) : zDn p μ S := fun f hs => by
  have pl := hS f hs
  have F0 : 0 ≤ pF p ∧ pF p ≤ 30 := (zV_sk hv).1
  have rf := (zPl_in hv pl).1
  obtain ⟨q1, q2, _⟩ := hq.2.2 f pl
  obtain ⟨b1, b2, _⟩ := zpo_b hv pl
  exact ⟨by omega, q1, q2, b1, b2⟩
theorem zrest_bits (hv : zV p) (hw : zWo p) (hq : zQC μ p) (vb : ∀ f, 0 ≤ f → zbt v f = zoff p h f) : ∀ f, 0 ≤ f → zbt ((((μ 23 5 : Int).toNat ^^^ ((μ 23 5 : Int).toNat &&& (v : Int).toNat) : Nat)) : Int) f = zrest p h f := fun f f0 => by
  rw [zbt_xa, hq.2.1 f f0, vb f f0]
  by_cases rf : f < pF p
  · rw [zrest_not hv hw ⟨f0, rf⟩, zPl_w hw hv ⟨f0, rf⟩]
    rfl
  · have n1 : zPl p f = false := by
      cases hz : zPl p f with
      | false => rfl
      | true => exact absurd (zPl_in hv hz).1.2 rf
    have n2 : zrest p h f = false := by
      cases hz : zrest p h f with
      | false => rfl
      | true => exact absurd (zrest_r hv hz).2 rf
    rw [n1, n2]
    rfl
theorem e_between (hv : zV p) (hw : zWo p) (hc : zCn' μ p) (v0 : 0 ≤ v) (vb : ∀ f, 0 ≤ f → zbt v f = zoff p h f) (ht : zTk p μ (zrest p h)) (hs : 0 ≤ s ∧ s < 4 * pF p) (hmo : zoff p h (pa p s / 4) = true) (hk : K (zD (zbw p s h)) μ) : z_ci m_X10_between [(2, 29), (0, v), (0, s), (0, pa p s)] μ (d + 3) K := by
  have sk := zV_sk hv
  have F0 : 0 ≤ pF p ∧ pF p ≤ 30 := sk.1
  obtain ⟨Q, _⟩ := zCn_Q hv hc
  have ho : z_kd 23 = 6 := by decide +kernel
  obtain ⟨s1, s2, s3, s4, s5, s6⟩ := sk.2.1 s hs.1 hs.2
  have pls := zPl_w hw hv (f := s / 4) (by omega)
  have plp := zPl_w hw hv (f := pa p s / 4) (by omega)
  obtain ⟨x1, x2, x3⟩ := Q.2.2 _ pls
  obtain ⟨y1, y2, y3⟩ := Q.2.2 _ plp
  obtain ⟨b1, b2, b3⟩ := zpo_b hv pls
  obtain ⟨c1, c2, c3⟩ := zpo_b hv plp
  have e24 : ∀ i, μ (23 + 1) i = μ 24 i := fun _ => rfl
  have e25 : ∀ i, μ (23 + 2) i = μ 25 i := fun _ => rfl
  have e26 : ∀ i, μ (23 + 3) i = μ 26 i := fun _ => rfl
  have ew : zwy (μ (23 + 3)) s = zwy (zT p) s := by unfold zwy; rw [e26, x3]
  have wr := zwy_r (T := zT p) (a := s)
  refine V_X10_between (e_turnBehind ho (by omega) (by rw [e26, x3]; exact b3) ⟨(by first | omega | exact ⟨by omega, by omega⟩), ?_⟩)
  rw [ew, y3]
  have ec : ((zwy (zT p) s + 2 - pa p s % 4) % 4 - zT p (pa p s / 4)) % 4 = zmc p s := rfl
  rw [ec]
  have cr := zmc_r (p := p) (s := s)
  have sx := zsx_r (zmc p s)
  have sy := zsy_r (zmc p s)
  have wx := zsx_r (zwy (zT p) s)
  have wy := zsy_r (zwy (zT p) s)
  obtain ⟨t1, t2⟩ := zS1 cr
  refine ⟨(by first | omega | exact ⟨by omega, by omega⟩), ?_⟩
  have key : ∀ f, 0 ≤ f → f ≤ 30 → z_ri m_X10_between 35 [some (2, 29), some (0, v), some (0, s), none, some (0, pa p s / 4), some (0, zmc p s), some (0, zS f.toNat (fun f => zN 30 (zbw p s h f))), some (0, f), none, none, none, none] μ (d + 3) K := by
    refine z_up (fun f f0 f1 ih => V_X10_between_35 ⟨fun q => ?_, fun q => ⟨(by first | omega | exact ⟨by omega, by omega⟩), v0, ?_⟩⟩)
    · obtain rfl : f = 30 := by omega
      exact hk
    · have nx := ih q
      rw [zS_up f0] at nx
      have sb : 0 ≤ zS f.toNat (fun b => zN 30 (zbw p s h b)) ∧ zS f.toNat (fun b => zN 30 (zbw p s h b)) ≤ 900 := by
        refine ⟨zS_nn _ (fun a _ _ => (zN_r 30).1), ?_⟩
        have := zS_le (f := fun b => zN 30 (zbw p s h b)) (g := fun _ => 30) f.toNat (fun a _ _ => (zN_r 30).2)
        rw [zS_const] at this
        omega
      rw [zbt_z v0, vb f f0]
      cases hz : zoff p h f with
      | false =>
        refine ⟨fun _ => ⟨(by first | omega | exact ⟨by omega, by omega⟩), ?_⟩, fun z => absurd rfl z⟩
        have e : zN 30 (zbw p s h f) = 0 := zN_nil 30 (fun i _ _ => by
          unfold zbw
          rw [hz]
          rfl)
        rw [e, Int.add_zero] at nx
        exact nx
      | true =>
        have rf := zoff_r hv hz
        have plf := zPl_w hw hv rf
        obtain ⟨u1, u2, u3⟩ := Q.2.2 _ plf
        obtain ⟨g1, g2, g3⟩ := zpo_b hv plf
        refine ⟨fun z => absurd z (by decide), fun _ => ?_⟩
        rw [u1, u2, y1, y2, t1, t2]
        have m1 := zmul_b (x := zX p f - zX p (pa p s / 4)) (c := zsx (zmc p s)) (by omega) sx
        have m2 := zmul_b (x := zX p f - zX p (pa p s / 4)) (c := zsy (zmc p s)) (by omega) sy
        have m3 := zmul_b (x := zY p f - zY p (pa p s / 4)) (c := zsx (zmc p s)) (by omega) sx
        have m4 := zmul_b (x := zY p f - zY p (pa p s / 4)) (c := zsy (zmc p s)) (by omega) sy
        refine ⟨(by first | omega | exact ⟨by omega, by omega⟩), (by first | omega | exact ⟨by omega, by omega⟩), (by first | omega | exact ⟨by omega, by omega⟩), (by first | omega | exact ⟨by omega, by omega⟩), (by first | omega | exact ⟨by omega, by omega⟩), (by first | omega | exact ⟨by omega, by omega⟩), e_xBehind ho (by omega) (by rw [e26, x3]; exact b3) (by rw [e24, x1]; omega) ?_⟩
        rw [e24, x1, ew]
        refine ⟨(by first | omega | exact ⟨by omega, by omega⟩), ?_⟩
        refine ⟨?_, ?_, (by first | omega | exact ⟨by omega, by omega⟩), ?_, ?_, e_yBehind ho (by omega) (by rw [e26, x3]; exact b3) (by rw [e25, x2]; omega) ?_⟩
        · exact ⟨by omega, by omega⟩
        · exact ⟨by omega, by omega⟩
        · exact ⟨by omega, by omega⟩
        · exact ⟨by omega, by omega⟩
        rw [e25, x2, ew]
        have z2 := zN_r (P := zbw p s h f) 30
        have en : zN 30 (fun g => zrest p h g && decide (zX p g = zmX p s f) && decide (zY p g = zmY p s f)) = zN 30 (zbw p s h f) := zN_eq 30 (fun g _ _ => by
          unfold zbw
          rw [hz]
          rfl)
        refine ⟨(by first | omega | exact ⟨by omega, by omega⟩), ⟨by omega, by omega⟩, ⟨by omega, by omega⟩, (by first | omega | exact ⟨by omega, by omega⟩), ⟨by omega, by omega⟩, ⟨by omega, by omega⟩, ⟨Q.1.1, v0⟩, ?_⟩
        refine e_howManyAt (p := p) (S := zrest p h) (Int.natCast_nonneg _) (zrest_bits hv hw Q vb) (zDn_of hv Q (fun g hg => zPl_w hw hv (zrest_r hv hg))) ht ⟨⟨by omega, by omega⟩, by omega, by omega⟩ ?_
        have eq1 : zX p (s / 4) + zsx (zwy (zT p) s) + (zX p f - zX p (pa p s / 4)) * zsx (zmc p s) - (zY p f - zY p (pa p s / 4)) * zsy (zmc p s) = zmX p s f := rfl
        have eq2 : zY p (s / 4) + zsy (zwy (zT p) s) + (zX p f - zX p (pa p s / 4)) * zsy (zmc p s) + (zY p f - zY p (pa p s / 4)) * zsx (zmc p s) = zmY p s f := rfl
        rw [eq1, eq2, en]
        exact ⟨(by first | omega | exact ⟨by omega, by omega⟩), (by first | omega | exact ⟨by omega, by omega⟩), nx⟩
  exact key 0 (by omega) (by omega)
end LO

/-! THE SKIN, as both sides have it -/
def zacA (s : Int → Int) (n : Int) : Int → Int := zac s n
noncomputable def zvX (s : Int → Int) (n k : Int) : Int := zvx (zph (zac s n)) (zps (zac s n)) (4 * zFs s n) k
noncomputable def zVs (s : Int → Int) (n : Int) : Int := zN (4 * zFs s n).toNat (zil (zph (zac s n)) (zps (zac s n)) (4 * zFs s n))
noncomputable def zvR (s : Int → Int) (n v : Int) : Int := zN (4 * zFs s n).toNat (fun k => decide (zvX s n k = v))
def zeD (s : Int → Int) (n k : Int) : Int := zed (zac s n) k
def zeS (s : Int → Int) (n e : Int) : Int := zes (zFs s n) (zac s n) e
/-- the class's skin -/
def zCK (m : z_Mem) (s : Int → Int) (n : Int) : Prop := zFC m s n ∧ (∀ k, 0 ≤ k → k < 4 * zFs s n → m 11 k = zac s n k ∧ m 12 k = zeD s n k ∧ m 15 k = zvX s n k) ∧ m 6 8 = 2 * zFs s n ∧ (∀ e, 0 ≤ e → e < 2 * zFs s n → m 13 (2 * e) = zeS s n e ∧ m 13 (2 * e + 1) = zac s n (zeS s n e) ∧ m 14 e = zac4 s n (zeS s n e)) ∧ m 6 11 = zVs s n ∧ ∀ v, 0 ≤ v → v < zVs s n → m 16 v = zvR s n v
/-- the reference's skin -/
def zMK (m : z_Mem) (s : Int → Int) (n : Int) : Prop := zFM m s n ∧ (∀ k, 0 ≤ k → k < 4 * zFs s n → m 123 k = zac s n k / 4 ∧ m 124 k = zac s n k % 4 ∧ m 125 k = zac4 s n k ∧ m 126 k = zeD s n k ∧ m 128 k = zvX s n k) ∧ m 113 22 = 2 * zFs s n ∧ (∀ e, 0 ≤ e → e < 2 * zFs s n → m 127 e = zeS s n e) ∧ m 113 23 = zVs s n ∧ ∀ v, 0 ≤ v → v < zVs s n → m 129 v = zvR s n v
theorem zil_sw {p q : Int → Int} {N : Int} : zil p q N = zil q p N := by
  have e : zle p q N = zle q p N := by
    funext k
    unfold zle
    rw [show (fun x => !zpd (zOr p q N x k)) = (fun x => !zpd (zOr q p N x k)) from funext fun x => by rw [propext zOr_sw]]
  unfold zil
  rw [e]
section SA
variable {n a r0 n0 : Int} {s t : Int → Int} {μ μ0 : z_Mem} {d : Nat} {K : Int → z_Mem → Prop} {Kn : z_Mem → Prop}
theorem zSt_ag (h : z_ag s t (3 * n)) (ht : zSt t n) : zSt s n := fun i i0 i1 => (zc_st_ag (fun j j0 j1 => h j j0 (by omega)) i0).mpr (ht i i0 i1)
theorem zA_ac (hn : 0 ≤ n) (hD : zDs s n) : zA (zFs s n) (zac s n) := zac_A hn hD
theorem zSK_ac (hn : 0 ≤ n) (hD : zDs s n) (hF : zFs s n ≤ 30) : zSK (zFs s n) (zac s n) (zeD s n) (zeS s n) := zSK_of ⟨(zN_r _).1, hF⟩ (fun k k0 k1 => zac_ok hn hD ⟨k0, k1⟩)
theorem zFC_ag {m m' : z_Mem} (h : zFC m s n) (h1 : m' 6 0 = m 6 0) (h2 : m' 6 2 = m 6 2) (h3 : ∀ o i, 7 ≤ o → o ≤ 10 → m' o i = m o i) : zFC m' s n := by
  obtain ⟨a1, a2, a3, a4, a5, a6, a7⟩ := h
  refine ⟨by rw [h1]; exact a1, ?_, a3, a4, by rw [h2]; exact a5, fun f f0 f1 => ?_, fun j j0 j1 => ?_⟩
  · funext i
    rw [h3 7 i (by decide) (by decide), a2]
  · rw [h3 9 f (by decide) (by decide), h3 10 f (by decide) (by decide)]
    exact a6 f f0 f1
  · rw [h3 8 j (by decide) (by decide)]
    exact a7 j j0 j1
theorem e_make (hr0 : z_kd r0 = 14 ∧ z_ln r0 = n0) (h21 : 21 ≤ n0) (hne : r0 ≠ 6 ∧ r0 ≠ 7) (ha : 0 ≤ n ∧ n ≤ 7) (h6 : z_c6 (μ0 r0) (3 * n)) (hst : zSt (μ0 r0) n) (hk : ∀ m s, (∀ o i, o < 6 ∨ 16 < o → m o i = μ0 o i) → z_ag s (μ0 r0) (3 * n) → zCK m s n → Kn m) : z_cn m_X9_make [(2, 6), (2, r0), (0, n)] μ0 (d + 4) Kn := by
  refine V_X9_make hr0 ⟨by omega, ?_⟩
  rw [show min n 7 = n by omega]
  generalize hm0 : z_cpy (z_st μ0 6 0 n) r0 0 7 0 21 = m0
  have f0 : ∀ o i, ¬ (o = 6 ∧ i = 0) → o ≠ 7 → m0 o i = μ0 o i := fun o i a b => by
    rw [← hm0, z_cpy_ne b, z_st_nx a]
  have g0 : m0 6 0 = n := by rw [← hm0, z_cpy_ne (by decide), z_st_eq]
  have ag : z_ag (m0 7) (μ0 r0) (3 * n) := fun j j0 j1 => by
    rw [← hm0, z_cpy_in (by omega), show 0 + (j - 0) = j by omega]
    exact z_st_ne hne.1
  generalize hs : m0 7 = s at ag
  have s6 : z_c6 s (3 * n) := fun i i0 i1 => by rw [ag i i0 i1]; exact h6 i i0 i1
  have sS := zSt_ag ag hst
  have sD := zSt_Ds sS
  have F30 := zF_30 ha sS
  have hA := zA_ac ha.1 sD
  have F0 : 0 ≤ zFs s n := (zN_r _).1
  have sk := zSK_ac ha.1 sD F30
  refine e_findFaces g0 ha hs s6 F30 (fun m1 h1 => ?_)
  have c1 := zCF_FC h1 g0 ha hs s6
  refine e_findEdges c1 sD F30 (fun m2 h2 => ?_)
  have e2 : ∀ k, 0 ≤ k → k < 4 * zFs s n → m2 11 k = zac s n k := h2.2.1
  refine e_findVertices (F := zFs s n) ⟨F0, F30⟩ hA ?_ e2 (fun m3 h3 => hk m3 s (fun o i q => ?_) ag ?_)
  · rw [h2.1 6 2 (by decide) (by decide) (by decide) (by decide) (by decide)]
    exact c1.2.2.2.2.1
  · rw [h3.1 o i (by omega) (by omega) (by omega), h2.1 o i (by omega) (by omega) (by omega) (by omega) (by omega), h1.1 o i (by omega) (by omega) (by omega) (by omega)]
    exact f0 o i (by omega) (by omega)
  · have hE := zN_E F0 hA
    refine ⟨zFC_ag c1 ?_ ?_ (fun o i a b => ?_), fun k k0 k1 => ⟨?_, ?_, ?_⟩, ?_, fun e e0 e1 => ?_, h3.2.2.1, fun v v0 v1 => h3.2.2.2 v v0 (by rw [h3.2.2.1]; exact v1)⟩
    · rw [h3.1 6 0 (by decide) (by decide) (by decide), h2.1 6 0 (by decide) (by decide) (by decide) (by decide) (by decide)]
    · rw [h3.1 6 2 (by decide) (by decide) (by decide), h2.1 6 2 (by decide) (by decide) (by decide) (by decide) (by decide)]
    · rw [h3.1 o i (by omega) (by omega) (by omega), h2.1 o i (by omega) (by omega) (by omega) (by omega) (by omega)]
    · rw [h3.1 11 k (by omega) (by decide) (by decide)]
      exact e2 k k0 k1
    · rw [h3.1 12 k (by omega) (by decide) (by decide), h2.2.2.1 k k0 k1, if_pos (by have := (hA k k0 k1).1; omega)]
      rfl
    · rw [h3.2.1 k k0 k1, if_pos (by have := zle_p (p := zph (zac s n)) (q := zps (zac s n)) ⟨k0, k1⟩; omega)]
      rfl
    · rw [h3.1 6 8 (by decide) (by decide) (by decide), h2.2.2.2.1]
      exact hE
    · obtain ⟨w1, w2, w3⟩ := sk.2.2 e e0 e1
      have := h2.2.2.2.2 (zeS s n e) w1.1 w1.2 w3
      rw [show zed (zac s n) (zeS s n e) = e from w2] at this
      rw [h3.1 13 _ (by omega) (by decide) (by decide), h3.1 13 _ (by omega) (by decide) (by decide), h3.1 14 _ (by omega) (by decide) (by decide)]
      exact this
theorem e12_laysSkin (hN : zNs μ0 n s) (hst : zSt s n) (hk : ∀ m, (∀ o i, (o < 121 ∨ 129 < o) → ¬ (o = 113 ∧ 21 ≤ i ∧ i ≤ 23) → m o i = μ0 o i) → zMK m s n → Kn m) : z_cn m_X12_laysSkin [(2, 113)] μ0 (d + 3) Kn := by
  have ha : 0 ≤ n ∧ n ≤ 7 := ⟨hN.2.1, hN.2.2.1⟩
  have sD := zSt_Ds hst
  have F30 := zF_30 ha hst
  have hA := zA_ac ha.1 sD
  have F0 : 0 ≤ zFs s n := (zN_r _).1
  have sk := zSK_ac ha.1 sD F30
  refine e12_faces hN F30 (fun m1 h1 => ?_)
  have c1 := zMF_FM h1 hN
  refine e12_sides c1 sD F30 (fun m2 h2 => ?_) m1 rfl
  have c2 : m2 113 21 = zFs s n := by rw [h2.1 113 21 (by decide) (by decide) (by decide) (by decide) (by decide)]; exact c1.2.1
  refine e12_laysEdges (F := zFs s n) (ac := zac s n) c2 ⟨F0, F30⟩ hA (fun k k0 k1 => ?_) (fun m3 h3 => ?_)
  · obtain ⟨w1, w2, w3, w4, w5⟩ := h2.2 k k0 k1
    exact ⟨w1, w2, w4⟩
  · have c3 : ∀ o i, o ≠ 113 → o ≠ 126 → o ≠ 127 → m3 o i = m2 o i := fun o i a b c => h3.1 o i (by omega) b c
    refine e12_laysVertices (F := zFs s n) (ac := zac s n) ⟨F0, F30⟩ hA ?_ (fun k k0 k1 => ?_) (fun m4 h4 => hk m4 (fun o i a b => ?_) ?_)
    · rw [h3.1 113 21 (by decide) (by decide) (by decide)]
      exact c2
    · obtain ⟨w1, w2, w3, w4, w5⟩ := h2.2 k k0 k1
      rw [c3 123 k (by decide) (by decide) (by decide), c3 124 k (by decide) (by decide) (by decide), c3 128 k (by decide) (by decide) (by decide)]
      exact ⟨w1, w2, w5⟩
    · rw [h4.1 o i (by omega) (by omega) (by omega), h3.1 o i (by omega) (by omega) (by omega), h2.1 o i (by omega) (by omega) (by omega) (by omega) (by omega), h1.1 o i (by omega) (by omega) (by omega)]
    · have c4 : ∀ o i, o ≠ 113 → o ≠ 128 → o ≠ 129 → m4 o i = m3 o i := fun o i a b c => h4.1 o i (by omega) b c
      have hE := zN_E F0 hA
      refine ⟨zFM_fr c1 (fun o i a b c e f g h j => ?_), fun k k0 k1 => ?_, ?_, fun e e0 e1 => ?_, ?_, fun v v0 v1 => ?_⟩
      · rw [h4.1 o i (by omega) (by omega) (by omega), h3.1 o i (by omega) (by omega) (by omega), h2.1 o i (by omega) (by omega) (by omega) (by omega) (by omega)]
      · obtain ⟨w1, w2, w3, w4, w5⟩ := h2.2 k k0 k1
        rw [c4 123 k (by decide) (by decide) (by decide), c4 124 k (by decide) (by decide) (by decide), c4 125 k (by decide) (by decide) (by decide), c4 126 k (by decide) (by decide) (by decide), c3 123 k (by decide) (by decide) (by decide), c3 124 k (by decide) (by decide) (by decide), c3 125 k (by decide) (by decide) (by decide)]
        refine ⟨w1, w2, w3, ?_, ?_⟩
        · rw [h3.2.1 k k0 k1, if_pos (by have := (hA k k0 k1).1; omega)]
          rfl
        · rw [h4.2.1 k k0 k1, if_pos (by have := zle_p (p := zps (zac s n)) (q := zph (zac s n)) ⟨k0, k1⟩; omega)]
          exact zvx_sw
      · rw [h4.1 113 22 (by decide) (by decide) (by decide), h3.2.2.1]
        exact hE
      · obtain ⟨w1, w2, w3⟩ := sk.2.2 e e0 e1
        have := h3.2.2.2 (zeS s n e) w1.1 w1.2 w3
        rw [show zed (zac s n) (zeS s n e) = e from w2] at this
        rw [c4 127 e (by decide) (by decide) (by decide)]
        exact this
      · rw [h4.2.2.1]
        unfold zVs
        rw [zil_sw]
      · have e : zN (4 * zFs s n).toNat (zil (zps (zac s n)) (zph (zac s n)) (4 * zFs s n)) = zVs s n := by
          unfold zVs
          rw [zil_sw]
        rw [h4.2.2.2 v v0 (by rw [h4.2.2.1, e]; exact v1)]
        unfold zvR zvX
        rw [show (fun k => decide (zvx (zps (zac s n)) (zph (zac s n)) (4 * zFs s n) k = v)) = (fun k => decide (zvx (zph (zac s n)) (zps (zac s n)) (4 * zFs s n) k = v)) from funext fun k => by rw [zvx_sw]]
end SA

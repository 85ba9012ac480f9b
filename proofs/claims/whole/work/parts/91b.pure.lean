theorem law_l18 {n : Nat} {Z : Zt} {hs m L : Nat} {xw : Nat → Int32} (hn : 70000 ≤ n) (hC : CZ Z hs) (hM : MZ Z m) (hd : hs + 1462 ≤ m) (hL : L ≤ 2560) (h5 : 5 ≤ L) : ∀ (fu i : Nat) (g : Mem), L - i < fu → i ≤ L → LInv hs m g → f_law_l18 n Z hs m L xw fu (nI i) g = some 1 := by
  intro fu
  induction fu with
  | zero => intro i g h1; omega
  | succ fu ih =>
    intro i g h1 h2 h
    have e5 : Int32.ofNat L - (5 : Int32) = nI (L - 5) := subN (a := L) (b := 5) h5
    unfold f_law_l18
    rw [e5]
    by_cases hi : i + 5 ≤ L
    · have hκ : ∀ g, LInv hs m g → f_law_l18 n Z hs m L xw fu (nI i + 5) g = some 1 := fun g hg => by
        rw [show nI i + (5 : Int32) = nI (i + 5) from nI_add i 5]
        exact ih (i + 5) g (by omega) (by omega) hg
      rw [if_neg (fun z => by have := (nlt (by omega) (by omega)).mp z; omega), grd_t (show inr (nI i) L by rw [inr_eq (by omega)]; omega)]
      by_cases c0 : (xw (nI i).toNatClampNeg &&& (63 : Int32)) = 0
      · rw [if_pos c0]; exact law_c0 hn hC hM hd hL hi h hκ
      rw [if_neg c0]
      by_cases c1 : (xw (nI i).toNatClampNeg &&& (63 : Int32)) = 1
      · rw [if_pos c1]; exact law_c1 hn hC hM hd hL hi h hκ
      rw [if_neg c1]
      by_cases c2 : (xw (nI i).toNatClampNeg &&& (63 : Int32)) = 2
      · rw [if_pos c2]; exact law_c2 hn hC hM hd hL hi h hκ
      rw [if_neg c2]
      by_cases c3 : (xw (nI i).toNatClampNeg &&& (63 : Int32)) = 3
      · rw [if_pos c3]; exact law_c3 hn hC hM hd hL hi h hκ
      rw [if_neg c3]
      by_cases c4 : (xw (nI i).toNatClampNeg &&& (63 : Int32)) = 4
      · rw [if_pos c4]; exact law_c4 hn hC hM hd hL hi h hκ
      rw [if_neg c4]
      by_cases c5 : (xw (nI i).toNatClampNeg &&& (63 : Int32)) = 5
      · rw [if_pos c5]; exact law_c5 hn hC hM hd hL hi h hκ
      rw [if_neg c5]
      by_cases c6 : (xw (nI i).toNatClampNeg &&& (63 : Int32)) = 6
      · rw [if_pos c6]; exact law_c6 hn hC hM hd hL hi h hκ
      rw [if_neg c6]
      by_cases c7 : (xw (nI i).toNatClampNeg &&& (63 : Int32)) = 7
      · rw [if_pos c7]; exact law_c7 hn hC hM hd hL hi h hκ
      rw [if_neg c7]
      by_cases c8 : (xw (nI i).toNatClampNeg &&& (63 : Int32)) = 8
      · rw [if_pos c8]; exact law_c8 hn hC hM hd hL hi h hκ
      rw [if_neg c8]
      by_cases c9 : (xw (nI i).toNatClampNeg &&& (63 : Int32)) = 9
      · rw [if_pos c9]; exact law_c9 hn hC hM hd hL hi h hκ
      rw [if_neg c9]
      by_cases c10 : (xw (nI i).toNatClampNeg &&& (63 : Int32)) = 10
      · rw [if_pos c10]; exact law_c10 hn hC hM hd hL hi h hκ
      rw [if_neg c10]
      by_cases c11 : (xw (nI i).toNatClampNeg &&& (63 : Int32)) = 11
      · rw [if_pos c11]; exact law_c11 hn hC hM hd hL hi h hκ
      rw [if_neg c11]
      by_cases c12 : (xw (nI i).toNatClampNeg &&& (63 : Int32)) = 12
      · rw [if_pos c12]; exact law_c12 hn hC hM hd hL hi h hκ
      rw [if_neg c12]
      by_cases c13 : (xw (nI i).toNatClampNeg &&& (63 : Int32)) = 13
      · rw [if_pos c13]; exact law_c13 hn hC hM hd hL hi h hκ
      rw [if_neg c13]
      by_cases c14 : (xw (nI i).toNatClampNeg &&& (63 : Int32)) = 14
      · rw [if_pos c14]; exact law_c14 hn hC hM hd hL hi h hκ
      rw [if_neg c14]
      by_cases c15 : (xw (nI i).toNatClampNeg &&& (63 : Int32)) = 15
      · rw [if_pos c15]; exact law_c15 hn hC hM hd hL hi h hκ
      rw [if_neg c15]
      by_cases c16 : (xw (nI i).toNatClampNeg &&& (63 : Int32)) = 16
      · rw [if_pos c16]; exact law_c16 hn hC hM hd hL hi h hκ
      rw [if_neg c16]
      by_cases c17 : (xw (nI i).toNatClampNeg &&& (63 : Int32)) = 17
      · rw [if_pos c17]; exact law_c17 hn hC hM hd hL hi h hκ
      rw [if_neg c17]
      by_cases c18 : (xw (nI i).toNatClampNeg &&& (63 : Int32)) = 18
      · rw [if_pos c18]; exact law_c18 hn hC hM hd hL hi h hκ
      rw [if_neg c18]
      by_cases c19 : (xw (nI i).toNatClampNeg &&& (63 : Int32)) = 19
      · rw [if_pos c19]; exact law_c19 hn hC hM hd hL hi h hκ
      rw [if_neg c19]
      by_cases c20 : (xw (nI i).toNatClampNeg &&& (63 : Int32)) = 20
      · rw [if_pos c20]; exact law_c20 hn hC hM hd hL hi h hκ
      rw [if_neg c20]
      by_cases c21 : (xw (nI i).toNatClampNeg &&& (63 : Int32)) = 21
      · rw [if_pos c21]; exact law_c21 hn hC hM hd hL hi h hκ
      rw [if_neg c21]
      by_cases c22 : (xw (nI i).toNatClampNeg &&& (63 : Int32)) = 22
      · rw [if_pos c22]; exact law_c22 hn hC hM hd hL hi h hκ
      rw [if_neg c22]
      by_cases c23 : (xw (nI i).toNatClampNeg &&& (63 : Int32)) = 23
      · rw [if_pos c23]; exact law_c23 hn hC hM hd hL hi h hκ
      rw [if_neg c23]
      by_cases c24 : (xw (nI i).toNatClampNeg &&& (63 : Int32)) = 24
      · rw [if_pos c24]; exact law_c24 hn hC hM hd hL hi h hκ
      rw [if_neg c24]
      by_cases c25 : (xw (nI i).toNatClampNeg &&& (63 : Int32)) = 25
      · rw [if_pos c25]; exact law_c25 hn hC hM hd hL hi h hκ
      rw [if_neg c25]
      by_cases c26 : (xw (nI i).toNatClampNeg &&& (63 : Int32)) = 26
      · rw [if_pos c26]; exact law_c26 hn hC hM hd hL hi h hκ
      rw [if_neg c26]
      by_cases c27 : (xw (nI i).toNatClampNeg &&& (63 : Int32)) = 27
      · rw [if_pos c27]; exact law_c27 hn hC hM hd hL hi h hκ
      rw [if_neg c27]
      by_cases c28 : (xw (nI i).toNatClampNeg &&& (63 : Int32)) = 28
      · rw [if_pos c28]; exact law_c28 hn hC hM hd hL hi h hκ
      rw [if_neg c28]
      by_cases c29 : (xw (nI i).toNatClampNeg &&& (63 : Int32)) = 29
      · rw [if_pos c29]; exact law_c29 hn hC hM hd hL hi h hκ
      rw [if_neg c29]
      by_cases c30 : (xw (nI i).toNatClampNeg &&& (63 : Int32)) = 30
      · rw [if_pos c30]; exact law_c30 hn hC hM hd hL hi h hκ
      rw [if_neg c30]
      by_cases c31 : (xw (nI i).toNatClampNeg &&& (63 : Int32)) = 31
      · rw [if_pos c31]; exact law_c31 hn hC hM hd hL hi h hκ
      rw [if_neg c31]
      by_cases c32 : (xw (nI i).toNatClampNeg &&& (63 : Int32)) = 32
      · rw [if_pos c32]; exact law_c32 hn hC hM hd hL hi h hκ
      rw [if_neg c32]
      by_cases c33 : (xw (nI i).toNatClampNeg &&& (63 : Int32)) = 33
      · rw [if_pos c33]; exact law_c33 hn hC hM hd hL hi h hκ
      rw [if_neg c33]
      by_cases c34 : (xw (nI i).toNatClampNeg &&& (63 : Int32)) = 34
      · rw [if_pos c34]; exact law_c34 hn hC hM hd hL hi h hκ
      rw [if_neg c34]
      by_cases c35 : (xw (nI i).toNatClampNeg &&& (63 : Int32)) = 35
      · rw [if_pos c35]; exact law_c35 hn hC hM hd hL hi h hκ
      rw [if_neg c35]
      by_cases c36 : (xw (nI i).toNatClampNeg &&& (63 : Int32)) = 36
      · rw [if_pos c36]; exact law_c36 hn hC hM hd hL hi h hκ
      rw [if_neg c36]
      by_cases c37 : (xw (nI i).toNatClampNeg &&& (63 : Int32)) = 37
      · rw [if_pos c37]; exact law_c37 hn hC hM hd hL hi h hκ
      rw [if_neg c37]
      by_cases c38 : (xw (nI i).toNatClampNeg &&& (63 : Int32)) = 38
      · rw [if_pos c38]; exact law_c38 hn hC hM hd hL hi h hκ
      rw [if_neg c38]
      exact hκ g h
    · rw [if_pos ((nlt (by omega) (by omega)).mpr (by omega))]
theorem CZ.mb {c : Nat} {Z Z' : Zt} (h : CZ Z c) (hB : ZB (c + 1462) Z Z') : CZ Z' c := by
  obtain ⟨h0, h1, h2, h3, h4, h5, h6, h7, h8, h9, h10⟩ := h
  have hR : ZR c 10 (c + 1462) Z Z' := hB.r
  refine ⟨?_, h1.mv hR (by omega) (by omega), h2.mv hR (by omega) (by omega), h3.mv hR (by omega) (by omega), h4.mv hR (by omega) (by omega), h5.mv hR (by omega) (by omega), h6.mv hR (by omega) (by omega), h7.mv hR (by omega) (by omega), h8.mv hR (by omega) (by omega), h9.mv hR (by omega) (by omega), h10.mv hR (by omega) (by omega)⟩
  rw [hB.k (by omega), hB.f (by omega), hB.f (by omega), hB.f (by omega), hB.f (by omega), hB.f (by omega), hB.f (by omega), hB.f (by omega), hB.f (by omega), hB.f (by omega), hB.f (by omega)]
  exact h0
theorem law_pure (hs L : Nat) (xw : Nat → Int32) (hL : L ≤ 2560) : ∃ n, f_law n hs L xw = some 1 := by
  obtain ⟨n, hn⟩ : ∃ n, 70000 ≤ n := ⟨70000, Nat.le_refl _⟩
  refine ⟨n, ?_⟩
  obtain ⟨Z1, g1, e1, c1, c2, c3, c4⟩ := i_X10 (n := n) (Z := nO Ze hs 8) (g := zr ge hs) (c := hs) (by omega) (by rw [zk_nO, if_pos rfl])
  obtain ⟨⟨Z2, g2⟩, e2, d1, d2, d3, d4⟩ := i_X11 (n := n) (m := hs + 1462) (Z := nO Z1 (hs + 1462) 9) (g := zr g1 (hs + 1462)) (by omega) (by rw [zk_nO, if_pos rfl]) (fun j => by rw [gI_zr, if_pos rfl])
  replace e2 : fi_X11 n (hs + 1463) (nO Z1 (hs + 1462) 9) (hs + 1462) (zr g1 (hs + 1462)) = some (Z2, g2) := e2
  have hB : ZB (hs + 1462) Z1 Z2 := ZB.trans ZB.nO d3 (Nat.le_refl _)
  have hC : CZ Z2 hs := c1.mb hB
  have hF : Fr (hs + 1462) (hs + 1483) g1 g2 := (Fr.zr Fr.rfl (by omega) (by omega)).trans (d4.mono (by omega) (by omega))
  have hI : LInv hs (hs + 1462) g2 := ⟨bI, [], 0, T0, [], dV, pinv0, c2.fr hF (by omega), d2⟩
  unfold f_law
  rw [e1, bnd_s, e2, bnd_s]
  by_cases h5 : 5 ≤ L
  · exact law_l18 hn hC d1 (by omega) hL h5 n 0 g2 (by omega) (by omega) hI
  · have H : ∀ q : Fin 5, Int32.ofNat q.1 - (5 : Int32) < 0 := by decide +kernel
    obtain ⟨fu, rfl⟩ : ∃ q, n = q + 1 := ⟨n - 1, by omega⟩
    rw [f_law_l18, if_pos (H ⟨L, by omega⟩)]

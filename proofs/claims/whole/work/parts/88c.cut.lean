section CUT
variable {n : Nat} {Z : Zt} {c m : Nat} {g : Mem}
theorem st_inv {len : Nat} {b : Nat → Nat} {hb : List (Nat → Nat)} {T : Nat → Nat} {P : List Nat} {v : Vl} {g3 g4 : Mem} (h4 : MInv g3 m b hb len T P v) (h5 : MR g3 m 0 v.1 v.2) (h26 : gI g3 m 26 = 1) (hF : Ch (pSt m) g3 g4) : MInv g4 m b hb len T P v ∧ Fr m (m + 21) g3 g4 :=
  ⟨h4.work (hF.mono fun b j q => by unfold pSt at q; unfold pL; omega) (Or.inr ⟨(hF.i (by unfold pSt; omega)).trans h26, h5.ch hF fun b j q z => by unfold pQ at q; unfold pSt; omega⟩), hF.fr fun b j q => by unfold pSt at q; omega⟩
theorem row_ne {len k j : Nat} {b : Nat → Nat} {hb : List (Nat → Nat)} {T : Nat → Nat} {P : List Nat} {v : Vl} (hP : PInv b hb len T P v) (hk : k < v.2.length) (p : Nat → Bool) (hj : j < (fav p (rowP v k)).length) : tsA (fav p (rowP v k)) j ≠ 0 := by
  have hy : (fav p (rowP v k)).getD j (0, 0) ∈ rowP v k := (List.mem_filter.mp (getD_mem (d := (0, 0)) hj)).1
  exact ts_ne ((hP.2.2.2.1.good hP.1.1).1 _ (getD_mem (d := (0, [])) hk) _ (List.mem_map_of_mem hy))
theorem a_smallestCut (hn : 70000 ≤ n) (hC : CZ Z c) (hM : MZ Z m) (hd : c + 1462 ≤ m) (x1 : Int32) (h : LInv c m g) : Agree c m (f_X10_smallestCut n Z c x1) (f_X11_smallestCut n Z m x1) g := by
  refine row_call (r0 := (-1 : Int32)) (x := x1) (show 500 ≤ n by omega) hC hM hd h ⟨fun q h1 h2 => ?_, fun g g' h1 => ?_⟩ fun b hb len T P v k q a hP hc hk h32 hx h1 h2 hZ hI ha1 ha2 => ?_
  · unfold f_X10_smallestCut; rw [grd_t hC.k, c_show_no hC h1 h2, bnd_s, if_pos rfl]
  · unfold f_X11_smallestCut; rw [grd_t hM.k, h1, bnd_s, if_pos rfl]
  · obtain ⟨g1, e1, e2, e3⟩ := c_show (n := n) (by omega) hC hP hc hk h1 h2 hZ hI ha1 ha2
    have hl := e2.2.1
    have hMM : ∀ g2 g3, f_X11_isRow n Z m x1 g2 = some (1, g3) → MInv g3 m b hb len T P v → MIs g3 m k (rowP v k) → ∃ g4, MsIs g4 m (fav (goneB b) (rowP v k)) ∧ Ch (pSt m) g3 g4 ∧ f_X11_smallestCut n Z m x1 g2 = f_X11_smallestCut_l25 n Z m n (ftI none) (nI 1) g4 := fun g2 g3 h3 h4 h6 => by
      obtain ⟨g4, f1, f2, f3⟩ := m_lays_sets (n := n) (by omega) hM (show k < 32 by omega) (bm_mk (goneB b)) h6
      refine ⟨g4, f2, f3, ?_⟩
      unfold f_X11_smallestCut
      rw [grd_t hM.k, h3, bnd_s, if_neg i10, m_mask1 (by omega) hP.1.1 hM h4.1, bnd_s, hx, f1, bnd_s]; rfl
    by_cases h0 : (fav (goneB b) (rowP v k)).length = 0
    · refine ⟨-6, g1, ?_, e3.mono (by omega) (by omega), fun g2 g3 h3 h4 h5 h26 h6 => ?_⟩
      · unfold f_X10_smallestCut
        rw [grd_t hC.k, e1, bnd_s, if_neg i10, hC.f8, drf_s, p_size hC.sh e2, bnd_s, h0, if_pos (show nI 0 = (0 : Int32) from rfl)]
      · obtain ⟨g4, f2, f3, f4⟩ := hMM g2 g3 h3 h4 h6
        obtain ⟨i1, i2⟩ := st_inv h4 h5 h26 f3
        exact ⟨g4, by rw [f4, m_cut0 f2 h0 (by omega) (by omega)]; rfl, i1, i2⟩
    · obtain ⟨g2', s1, s2, s3⟩ := c_setTo (n := n) (by omega) hC.ts hC.sh (by omega) e2
      obtain ⟨r, r1, r2, r3, r4⟩ := c_least (n := n) (by omega) hC.ts s2 (fun j hj => row_ne hP hk (goneB b) hj)
      refine ⟨nI r, g2', ?_, (e3.mono (by omega) (by omega)).trans (s3.mono (by omega) (by omega)), fun g2 g3 h3 h4 h5 h26 h6 => ?_⟩
      · unfold f_X10_smallestCut
        rw [grd_t hC.k, e1, bnd_s, if_neg i10, hC.f8, drf_s, p_size hC.sh e2, bnd_s, if_neg (show ¬ nI _ = (0 : Int32) from neI (b := 0) (by omega) (by omega) h0), hC.f9, drf_s, drf_s, s1, bnd_s, drf_s, r2, bnd_s]
      · obtain ⟨g4, f2, f3, f4⟩ := hMM g2 g3 h3 h4 h6
        obtain ⟨i1, i2⟩ := st_inv h4 h5 h26 f3
        refine ⟨g4, ?_, i1, i2⟩
        obtain ⟨o', o1, o2⟩ := m_cut25 (n := n) (g := g4) (by omega) hM f2 (by omega) 65535 1 n none (by omega) (by omega) (by omega) (fun s hs z => by
          have : s = 0 := by omega
          subst this
          exact z 0 (by omega) (Nat.and_zero _))
        rw [f4, o2]
        cases o' with
        | none => exact absurd r3 (o1 r r1)
        | some w =>
          obtain ⟨w1, w2, w3⟩ := o1
          rw [key_inj r1 w1 (r4 w w1 w2) (w3 r r1 r3)]; rfl
end CUT

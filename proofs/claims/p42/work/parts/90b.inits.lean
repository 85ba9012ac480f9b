/-! THE CONSTRUCTORS THAT FILL ARRAYS -/
theorem ZB.k {q b : Nat} {Z Z' : Zt} (h : ZB q Z Z') (hb : b < q) : zk Z' b = zk Z b := (h b hb).1
theorem ZB.l {q b : Nat} {Z Z' : Zt} (h : ZB q Z Z') (hb : b < q) : zl Z' b = zl Z b := (h b hb).2.1
theorem ZB.f {q b : Nat} {Z Z' : Zt} (h : ZB q Z Z') {j : Nat} (hb : b < q) : zf Z' b j = zf Z b j := (h b hb).2.2 j
theorem RZ0.mb {q a : Nat} {Z Z' : Zt} (h : RZ0 Z a) (hF : ZB q Z Z') (h1 : a + 3 ≤ q) : RZ0 Z' a := by
  unfold RZ0 at *
  simp (disch := omega) only [hF.k, hF.l, hF.f]
  exact h
theorem HZ0.mb {q a : Nat} {Z Z' : Zt} (h : HZ0 Z a) (hF : ZB q Z Z') (h1 : a + 2 ≤ q) : HZ0 Z' a := by
  unfold HZ0 at *
  simp (disch := omega) only [hF.k, hF.l, hF.f]
  exact h
theorem EZ0.mb {q a : Nat} {Z Z' : Zt} (h : EZ0 Z a) (hF : ZB q Z Z') (h1 : a + 2 ≤ q) : EZ0 Z' a := by
  unfold EZ0 at *
  simp (disch := omega) only [hF.k, hF.l, hF.f]
  exact h
section INITS
variable {n : Nat}
theorem i_l23 {a : Nat} : ∀ (d i fu : Nat) (Z : Zt) (g : Mem), d = 32 - i → i ≤ 32 → d < fu → RZ0 Z a → (∀ j, j < i → PZ Z (a + 3 + 3 * j)) → (∀ j, j < i → gP g (a + 2) j = some (a + 3 + 3 * j)) → ∃ Z' g', fi_X7_l23 n (a + 1) a fu (nI i) Z (2 + 3 * i) (64 + 67 * i) g = some (Z', g') ∧ RZ Z' a ∧ ZB (a + 3) Z Z' ∧ (∀ j, j < 32 → gP g' (a + 2) j = some (a + 3 + 3 * j)) ∧ Fr (a + 2) (a + 99) g g' := by
  intro d
  induction d with
  | zero =>
    intro i fu Z g h1 h2 h3 h4 h5 h6
    obtain ⟨fu, rfl⟩ : ∃ q, fu = q + 1 := ⟨fu - 1, by omega⟩
    have hi : i = 32 := by omega
    subst hi
    refine ⟨Z, g, ?_, ⟨h4, h5⟩, fun b hb => ⟨rfl, rfl, fun j => rfl⟩, h6, Fr.rfl⟩
    unfold fi_X7_l23
    rw [if_pos (show (32 : Int32) ≤ nI 32 by decide), grd_t ⟨by omega, by omega⟩]
  | succ d ih =>
    intro i fu Z g h1 h2 h3 h4 h5 h6
    obtain ⟨fu, rfl⟩ : ∃ q, fu = q + 1 := ⟨fu - 1, by omega⟩
    have hi : i < 32 := by omega
    obtain ⟨Z1, g1, e1, e2, e3, e4⟩ := i_X5 (n := n) (Z := nO Z (a + 3 + 3 * i) 3) (g := zr g (a + 3 + 3 * i)) (a := a + 3 + 3 * i) (hs := a + 3 + 3 * i + 1) rfl (by rw [zk_nO, if_pos rfl])
    have hB : ZB (a + 3 + 3 * i) Z Z1 := ZB.trans ZB.nO e3 (Nat.le_refl _)
    have hF : Fr (a + 2) (a + 99) g (sP g1 (a + 2) i (some (a + 3 + 3 * i))) := Fr.sP ((Fr.zr Fr.rfl (by omega) (by omega)).trans (e4.mono (by omega) (by omega))) (by omega) (by omega)
    have hR := h4.mb hB (by omega)
    obtain ⟨Z', g', f1, f2, f3, f4, f5⟩ := ih (i + 1) fu Z1 (sP g1 (a + 2) i (some (a + 3 + 3 * i))) (by omega) (by omega) (by omega) hR (fun j hj => by
      by_cases q : j = i
      · subst q; exact e2
      · exact (h5 j (by omega)).mv (c := a) (i := 0) (hB.r) (by omega) (by omega)) (fun j hj => by
      rw [gP_sP]
      by_cases q : j = i
      · subst q; rw [if_pos ⟨rfl, rfl⟩]
      · rw [if_neg (by omega), e4.p (by omega), gP_zr, if_neg (by omega)]; exact h6 j (by omega))
    refine ⟨Z', g', ?_, f2, fun b hb => ?_, f4, hF.trans f5⟩
    · unfold fi_X7_l23
      have a1 : a + 1 + (2 + 3 * i) = a + 3 + 3 * i := by omega
      have a2 : a + 1 + (2 + 3 * i + 1) = a + 3 + 3 * i + 1 := by omega
      rw [if_neg (show ¬ (32 : Int32) ≤ nI i from ge_n (N := 32) (by omega) hi), grd_t h4.1, h4.2.2.2.2.1, drf_s, grd_t ⟨by omega, by omega⟩, a1, a2]
      simp only [nam]
      rw [grd_t ⟨by omega, by omega⟩, e1, bnd_s, grd_t hR.2.2.2.2.2.1, grd_t e2.1, hR.2.2.2.2.2.2, grd_t (show inr (nI i) 32 by rw [inr_eq (by omega)]; exact hi), clamp (by omega), nI_1, show 2 + 3 * i + 1 + 2 = 2 + 3 * (i + 1) by omega, show 64 + 67 * i + 3 + 64 = 64 + 67 * (i + 1) by omega]
      exact f1
    · obtain ⟨y1, y2, y3⟩ := f3 b (by omega)
      obtain ⟨z1, z2, z3⟩ := hB b (by omega)
      exact ⟨y1.trans z1, y2.trans z2, fun j => (y3 j).trans (z3 j)⟩
theorem i_X7 {a hs : Nat} {Z : Zt} {g : Mem} (hn : 40 ≤ n) (hh : hs = a + 1) (hk : zk Z a = 6) (hz : ∀ j, gI g a j = 0) : ∃ Z' g', fi_X7 n hs Z a g = some (Z', g') ∧ RZ Z' a ∧ RIs g' a 0 id [] ∧ ZB a Z Z' ∧ Fr a (a + 99) g g' := by
  subst hh
  unfold fi_X7
  simp (disch := omega) only [nam, zk_fZ, zk_nA, if_neg, hk, grd_true, Nat.add_assoc, Nat.reduceAdd]
  generalize hZa : fZ (nA _ (a + 2) 15 32) a 1 (some (a + 2)) = Za
  have k0 : ∀ b, zk Za b = if b = a + 2 then 15 else if b = a + 1 then 12 else zk Z b := fun b => by rw [← hZa]; rfl
  have l0 : ∀ b, zl Za b = if b = a + 2 then 32 else if b = a + 1 then 32 else zl Z b := fun b => by rw [← hZa]; rfl
  have f0 : ∀ b j, zf Za b j = if b = a ∧ j = 1 then some (a + 2) else if b = a ∧ j = 0 then some (a + 1) else zf Z b j := fun b j => by rw [← hZa]; rfl
  have hR : RZ0 Za a := by
    unfold RZ0
    simp (disch := omega) only [k0, l0, f0, if_pos, if_neg, hk, and_self, ↓reduceIte, and_true, true_and]
  obtain ⟨Z', g', e1, e2, e3, e4, e5⟩ := i_l23 (n := n) (a := a) 32 0 n Za (zr (zr g (a + 1)) (a + 2)) (by omega) (by omega) (by omega) hR (fun j hj => absurd hj (Nat.not_lt_zero _)) (fun j hj => absurd hj (Nat.not_lt_zero _))
  have z0 : ∀ j, gI g' a j = 0 := fun j => by
    rw [e5.i (by omega)]
    simp (disch := omega) only [gI_zr, if_neg, hz]
  refine ⟨Z', g', e1, e2, ⟨z0 2, z0 3, Nat.zero_le _, fun k hk => absurd hk (Nat.not_lt_zero _), fun j hj => ⟨e4 j hj, hj⟩, fun i j _ _ e => e, fun k hk => absurd hk (Nat.not_lt_zero _)⟩, fun b hb => ?_, (Fr.zr (Fr.zr Fr.rfl (by omega) (by omega)) (by omega) (by omega) : Fr a (a + 99) g _).trans (e5.mono (by omega) (by omega))⟩
  obtain ⟨y1, y2, y3⟩ := e3 b (by omega)
  refine ⟨?_, ?_, fun j => ?_⟩
  · rw [y1, k0]; simp (disch := omega) only [if_neg]
  · rw [y2, l0]; simp (disch := omega) only [if_neg]
  · rw [y3, f0]; simp (disch := omega) only [if_neg]
theorem i_l14 {a : Nat} (hn : 40 ≤ n) : ∀ (d i fu : Nat) (Z : Zt) (g : Mem), d = 4 - i → i ≤ 4 → d < fu → HZ0 Z a → (∀ j, j < i → SZ Z (a + 2 + 8 * j)) → (∀ j, j < i → gP g (a + 1) j = some (a + 2 + 8 * j)) → ∃ Z' g', fi_X1_l14 n (a + 1) a fu (nI i) Z (1 + 8 * i) (4 + 138 * i) g = some (Z', g') ∧ HZ Z' a ∧ ZB (a + 2) Z Z' ∧ (∀ j, j < 4 → gP g' (a + 1) j = some (a + 2 + 8 * j)) ∧ Fr (a + 1) (a + 34) g g' := by
  intro d
  induction d with
  | zero =>
    intro i fu Z g h1 h2 h3 h4 h5 h6
    obtain ⟨fu, rfl⟩ : ∃ q, fu = q + 1 := ⟨fu - 1, by omega⟩
    have hi : i = 4 := by omega
    subst hi
    refine ⟨Z, g, ?_, ⟨h4, h5⟩, fun b hb => ⟨rfl, rfl, fun j => rfl⟩, h6, Fr.rfl⟩
    unfold fi_X1_l14
    rw [if_pos (show (4 : Int32) ≤ nI 4 by decide), grd_t ⟨by omega, by omega⟩]
  | succ d ih =>
    intro i fu Z g h1 h2 h3 h4 h5 h6
    obtain ⟨fu, rfl⟩ : ∃ q, fu = q + 1 := ⟨fu - 1, by omega⟩
    have hi : i < 4 := by omega
    obtain ⟨Z1, g1, e1, e2, -, e3, e4⟩ := i_X8 (n := n) (Z := nO Z (a + 2 + 8 * i) 6) (g := zr g (a + 2 + 8 * i)) (a := a + 2 + 8 * i) (hs := a + 2 + 8 * i + 1) hn rfl (by rw [zk_nO, if_pos rfl]) (fun j => by rw [gI_zr, if_pos rfl])
    have hB : ZB (a + 2 + 8 * i) Z Z1 := ZB.trans ZB.nO e3 (Nat.le_refl _)
    have hF : Fr (a + 1) (a + 34) g (sP g1 (a + 1) i (some (a + 2 + 8 * i))) := Fr.sP ((Fr.zr Fr.rfl (by omega) (by omega)).trans (e4.mono (by omega) (by omega))) (by omega) (by omega)
    have hR := h4.mb hB (by omega)
    obtain ⟨Z', g', f1, f2, f3, f4, f5⟩ := ih (i + 1) fu Z1 (sP g1 (a + 1) i (some (a + 2 + 8 * i))) (by omega) (by omega) (by omega) hR (fun j hj => by
      by_cases q : j = i
      · subst q; exact e2
      · exact (h5 j (by omega)).mv (c := a) (i := 0) (hB.r) (by omega) (by omega)) (fun j hj => by
      rw [gP_sP]
      by_cases q : j = i
      · subst q; rw [if_pos ⟨rfl, rfl⟩]
      · rw [if_neg (by omega), e4.p (by omega), gP_zr, if_neg (by omega)]; exact h6 j (by omega))
    refine ⟨Z', g', ?_, f2, fun b hb => ?_, f4, hF.trans f5⟩
    · unfold fi_X1_l14
      have a1 : a + 1 + (1 + 8 * i) = a + 2 + 8 * i := by omega
      have a2 : a + 1 + (1 + 8 * i + 1) = a + 2 + 8 * i + 1 := by omega
      rw [if_neg (show ¬ (4 : Int32) ≤ nI i from ge_n (N := 4) (by omega) hi), grd_t h4.1, h4.2.1, drf_s, grd_t ⟨by omega, by omega⟩, a1, a2]
      simp only [nam]
      rw [grd_t ⟨by omega, by omega⟩, e1, bnd_s, grd_t hR.2.2.1, grd_t e2.1.1, hR.2.2.2, grd_t (show inr (nI i) 4 by rw [inr_eq (by omega)]; exact hi), clamp (by omega), nI_1, show 1 + 8 * i + 1 + 7 = 1 + 8 * (i + 1) by omega, show 4 + 138 * i + 8 + 130 = 4 + 138 * (i + 1) by omega]
      exact f1
    · obtain ⟨y1, y2, y3⟩ := f3 b (by omega)
      obtain ⟨z1, z2, z3⟩ := hB b (by omega)
      exact ⟨y1.trans z1, y2.trans z2, fun j => (y3 j).trans (z3 j)⟩
theorem i_X1 {a hs : Nat} {Z : Zt} {g : Mem} (hn : 40 ≤ n) (hh : hs = a + 1) (hk : zk Z a = 2) (hz : ∀ j, gI g a j = 0) : ∃ Z' g', fi_X1 n hs Z a g = some (Z', g') ∧ HZ Z' a ∧ HsIs g' a id [] ∧ ZB a Z Z' ∧ Fr a (a + 34) g g' := by
  subst hh
  unfold fi_X1
  simp (disch := omega) only [nam, zk_fZ, zk_nA, if_neg, hk, grd_true, Nat.add_assoc, Nat.reduceAdd]
  generalize hZa : fZ (nA _ (a + 1) 17 4) a 0 (some (a + 1)) = Za
  have k0 : ∀ b, zk Za b = if b = a + 1 then 17 else zk Z b := fun b => by rw [← hZa]; rfl
  have l0 : ∀ b, zl Za b = if b = a + 1 then 4 else zl Z b := fun b => by rw [← hZa]; rfl
  have f0 : ∀ b j, zf Za b j = if b = a ∧ j = 0 then some (a + 1) else zf Z b j := fun b j => by rw [← hZa]; rfl
  have hR : HZ0 Za a := by
    unfold HZ0
    simp (disch := omega) only [k0, l0, f0, if_pos, if_neg, hk, and_self, ↓reduceIte, and_true, true_and]
  obtain ⟨Z', g', e1, e2, e3, e4, e5⟩ := i_l14 (n := n) (a := a) hn 4 0 n Za (zr g (a + 1)) (by omega) (by omega) (by omega) hR (fun j hj => absurd hj (Nat.not_lt_zero _)) (fun j hj => absurd hj (Nat.not_lt_zero _))
  have z0 : ∀ j, gI g' a j = 0 := fun j => by
    rw [e5.i (by omega)]
    simp (disch := omega) only [gI_zr, if_neg, hz]
  refine ⟨Z', g', e1, e2, ⟨z0 1, Nat.zero_le _, fun j hj => ⟨e4 j hj, hj⟩, fun i j _ _ e => e, fun k hk => absurd hk (Nat.not_lt_zero _)⟩, fun b hb => ?_, (Fr.zr Fr.rfl (by omega) (by omega) : Fr a (a + 34) g _).trans (e5.mono (by omega) (by omega))⟩
  obtain ⟨y1, y2, y3⟩ := e3 b (by omega)
  refine ⟨?_, ?_, fun j => ?_⟩
  · rw [y1, k0]; simp (disch := omega) only [if_neg]
  · rw [y2, l0]; simp (disch := omega) only [if_neg]
  · rw [y3, f0]; simp (disch := omega) only [if_neg]
theorem i_l37 {a : Nat} (hn : 40 ≤ n) : ∀ (d i fu : Nat) (Z : Zt) (g : Mem), d = 12 - i → i ≤ 12 → d < fu → EZ0 Z a → (∀ j, j < i + 2 → RZ Z (a + 2 + 99 * j) ∧ RIs g (a + 2 + 99 * j) 0 id []) → (∀ j, j < i → gP g (a + 1) j = some (a + 2 + 99 * (j + 2))) → ∃ Z' g', fi_X0_l37 n (a + 1) a fu (nI i) Z (199 + 99 * i) (4436 + 2212 * i) g = some (Z', g') ∧ EZ Z' a ∧ ZB (a + 2) Z Z' ∧ (∀ j, j < 12 → gP g' (a + 1) j = some (a + 2 + 99 * (j + 2))) ∧ (∀ j, j < 14 → RIs g' (a + 2 + 99 * j) 0 id []) ∧ Fr (a + 1) (a + 1388) g g' := by
  intro d
  induction d with
  | zero =>
    intro i fu Z g h1 h2 h3 h4 h5 h6
    obtain ⟨fu, rfl⟩ : ∃ q, fu = q + 1 := ⟨fu - 1, by omega⟩
    have hi : i = 12 := by omega
    subst hi
    refine ⟨Z, g, ?_, ⟨h4, fun j hj => (h5 j hj).1⟩, fun b hb => ⟨rfl, rfl, fun j => rfl⟩, h6, fun j hj => (h5 j hj).2, Fr.rfl⟩
    unfold fi_X0_l37
    rw [if_pos (show (12 : Int32) ≤ nI 12 by decide), grd_t ⟨by omega, by omega⟩]
  | succ d ih =>
    intro i fu Z g h1 h2 h3 h4 h5 h6
    obtain ⟨fu, rfl⟩ : ∃ q, fu = q + 1 := ⟨fu - 1, by omega⟩
    have hi : i < 12 := by omega
    obtain ⟨Z1, g1, e1, e2, e5, e3, e4⟩ := i_X7 (n := n) (Z := nO Z (a + 2 + 99 * (i + 2)) 5) (g := zr g (a + 2 + 99 * (i + 2))) (a := a + 2 + 99 * (i + 2)) (hs := a + 2 + 99 * (i + 2) + 1) hn rfl (by rw [zk_nO, if_pos rfl]) (fun j => by rw [gI_zr, if_pos rfl])
    have hB : ZB (a + 2 + 99 * (i + 2)) Z Z1 := ZB.trans ZB.nO e3 (Nat.le_refl _)
    have hG : Fr (a + 2 + 99 * (i + 2)) (a + 2 + 99 * (i + 3)) g g1 := (Fr.zr Fr.rfl (by omega) (by omega)).trans (e4.mono (by omega) (by omega))
    have hS : Fr (a + 1) (a + 2) g1 (sP g1 (a + 1) i (some (a + 2 + 99 * (i + 2)))) := Fr.sP Fr.rfl (by omega) (by omega)
    have hF : Fr (a + 1) (a + 1388) g (sP g1 (a + 1) i (some (a + 2 + 99 * (i + 2)))) := (hG.mono (by omega) (by omega)).trans (hS.mono (by omega) (by omega))
    have hR := h4.mb hB (by omega)
    obtain ⟨Z', g', f1, f2, f3, f4, f6, f5⟩ := ih (i + 1) fu Z1 (sP g1 (a + 1) i (some (a + 2 + 99 * (i + 2)))) (by omega) (by omega) (by omega) hR (fun j hj => by
      by_cases q : j = i + 2
      · subst q; exact ⟨e2, e5.fr hS (by omega)⟩
      · exact ⟨(h5 j (by omega)).1.mv (c := a) (i := 0) (hB.r) (by omega) (by omega), ((h5 j (by omega)).2.fr hG (by omega)).fr hS (by omega)⟩) (fun j hj => by
      rw [gP_sP]
      by_cases q : j = i
      · subst q; rw [if_pos ⟨rfl, rfl⟩]
      · rw [if_neg (by omega), hG.p (by omega)]; exact h6 j (by omega))
    refine ⟨Z', g', ?_, f2, fun b hb => ?_, f4, f6, hF.trans f5⟩
    · unfold fi_X0_l37
      have a1 : a + 1 + (199 + 99 * i) = a + 2 + 99 * (i + 2) := by omega
      have a2 : a + 1 + (199 + 99 * i + 1) = a + 2 + 99 * (i + 2) + 1 := by omega
      rw [if_neg (show ¬ (12 : Int32) ≤ nI i from ge_n (N := 12) (by omega) hi), grd_t h4.1, h4.2.1, drf_s, grd_t ⟨by omega, by omega⟩, a1, a2]
      simp only [nam]
      rw [grd_t ⟨by omega, by omega⟩, e1, bnd_s, grd_t hR.2.2.1, grd_t e2.1.1, hR.2.2.2, grd_t (show inr (nI i) 12 by rw [inr_eq (by omega)]; exact hi), clamp (by omega), nI_1, show 199 + 99 * i + 1 + 98 = 199 + 99 * (i + 1) by omega, show 4436 + 2212 * i + 4 + 2208 = 4436 + 2212 * (i + 1) by omega]
      exact f1
    · obtain ⟨y1, y2, y3⟩ := f3 b (by omega)
      obtain ⟨z1, z2, z3⟩ := hB b (by omega)
      exact ⟨y1.trans z1, y2.trans z2, fun j => (y3 j).trans (z3 j)⟩
def rhoI (i : Nat) : Nat := if i < 12 then i + 2 else i - 12
theorem i_X0 {a hs : Nat} {Z : Zt} {g : Mem} (hn : 40 ≤ n) (hh : hs = a + 1) (hk : zk Z a = 1) : ∃ Z' g', fi_X0 n hs Z a g = some (Z', g') ∧ EZ Z' a ∧ EA g' a dV ∧ ZB a Z Z' ∧ Fr a (a + 1388) g g' := by
  subst hh
  have k0 : zk (nA Z (a + 1) 16 12) a = 1 := by rw [zk_nA, if_neg (by omega)]; exact hk
  obtain ⟨Z1, g1, e1, e2, e3, e4, e5⟩ := i_X7 (n := n) (Z := nO (fZ (nA Z (a + 1) 16 12) a 0 (some (a + 1))) (a + 2) 5) (g := zr (zr g (a + 1)) (a + 2)) (a := a + 2) (hs := a + 3) hn rfl (by rw [zk_nO, if_pos rfl]) (fun j => by rw [gI_zr, if_pos rfl])
  have hB1 : ZB (a + 2) (fZ (nA Z (a + 1) 16 12) a 0 (some (a + 1))) Z1 := ZB.trans ZB.nO e4 (Nat.le_refl _)
  have k1 : zk Z1 a = 1 := by rw [hB1.k (by omega), zk_fZ]; exact k0
  obtain ⟨Z2, g2, f1, f2, f3, f4, f5⟩ := i_X7 (n := n) (Z := nO Z1 (a + 101) 5) (g := zr (sP g1 a 1 (some (a + 2))) (a + 101)) (a := a + 101) (hs := a + 102) hn rfl (by rw [zk_nO, if_pos rfl]) (fun j => by rw [gI_zr, if_pos rfl])
  have hB2 : ZB (a + 101) Z1 Z2 := ZB.trans ZB.nO f4 (Nat.le_refl _)
  have k2 : zk Z2 a = 1 := by rw [hB2.k (by omega)]; exact k1
  have hB : ZB (a + 2) (fZ (nA Z (a + 1) 16 12) a 0 (some (a + 1))) Z2 := hB1.trans hB2 (by omega)
  have hE : EZ0 Z2 a := by
    unfold EZ0
    simp (disch := omega) only [hB.k, hB.l, hB.f, zk_fZ, zl_fZ, zf_fZ, zk_nA, zl_nA, zf_nA, if_pos, if_neg, hk, and_self, ↓reduceIte, and_true, true_and]
  have hs1 : Fr a (a + 1) g1 (sP g1 a 1 (some (a + 2))) := Fr.sP Fr.rfl (by omega) (by omega)
  have hs2 : Fr a (a + 1) g2 (sP g2 a 2 (some (a + 101))) := Fr.sP Fr.rfl (by omega) (by omega)
  have hm : Fr (a + 101) (a + 200) (sP g1 a 1 (some (a + 2))) g2 := (Fr.zr Fr.rfl (by omega) (by omega)).trans (f5.mono (by omega) (by omega))
  obtain ⟨Z', g', p1, p2, p3, p4, p5, p6⟩ := i_l37 (n := n) (a := a) hn 12 0 n Z2 (sP g2 a 2 (some (a + 101))) (by omega) (by omega) (by omega) hE (fun j hj => by
    by_cases q : j = 0
    · subst q
      exact ⟨e2.mv (c := a) (i := 0) hB2.r (by omega) (by omega), ((e3.fr hs1 (by omega)).fr hm (by omega)).fr hs2 (by omega)⟩
    · have : j = 1 := by omega
      subst this
      exact ⟨f2, f3.fr hs2 (by omega)⟩) (fun j hj => absurd hj (Nat.not_lt_zero _))
  refine ⟨Z', g', ?_, p2, ⟨rhoI, fun _ => (0, []), ⟨fun i hi => ?_, ?_, ?_, fun i hi => ?_, fun i j hi hj e => ?_, fun i hi => ⟨id, ?_⟩⟩, rfl⟩, fun b hb => ?_, ?_⟩
  · unfold fi_X0
    simp only [nam, Nat.add_assoc, Nat.reduceAdd]
    rw [grd_t k0, e1, bnd_s, grd_t k1, f1, bnd_s, grd_t k2]
    exact p1
  · unfold rhoI; rw [if_pos hi]; exact p4 i hi
  · rw [p6.p (by omega), gP_sP, if_neg (by omega), hm.p (by omega), gP_sP, if_pos ⟨rfl, rfl⟩]; rfl
  · rw [p6.p (by omega), gP_sP, if_pos ⟨rfl, rfl⟩]; rfl
  · unfold rhoI; split <;> omega
  · unfold rhoI at e; split at e <;> split at e <;> omega
  · have : rhoI i < 14 := by unfold rhoI; split <;> omega
    exact p5 _ this
  · obtain ⟨y1, y2, y3⟩ := p3 b (by omega)
    obtain ⟨z1, z2, z3⟩ := hB b (by omega)
    refine ⟨?_, ?_, fun j => ?_⟩
    · rw [y1, z1, zk_fZ, zk_nA, if_neg (by omega)]
    · rw [y2, z2, zl_fZ, zl_nA, if_neg (by omega)]
    · rw [y3, z3, zf_fZ, zf_nA, if_neg (by omega)]
  · exact (((((Fr.zr (Fr.zr Fr.rfl (by omega) (by omega)) (by omega) (by omega) : Fr a (a + 1388) g _).trans (e5.mono (by omega) (by omega))).trans (hs1.mono (by omega) (by omega))).trans (hm.mono (by omega) (by omega))).trans (hs2.mono (by omega) (by omega))).trans (p6.mono (by omega) (by omega))
end INITS

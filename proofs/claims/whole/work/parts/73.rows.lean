/-! addRow, dropRow -/
/-- the answer that the class holds -/
theorem EA.at {Z : Zt} {g : Mem} {a : Nat} {v : Vl} (hZ : EZ Z a) (h : EA g a v) : ∃ q π, gP g a 2 = some q ∧ RZ Z q ∧ RIs g q v.1 π (pkR v.2) ∧ a + 2 ≤ q ∧ q + 99 ≤ a + 1388 := by
  obtain ⟨ρ, C, h1, h2⟩ := h
  have h13 := h1.2.2.2.1 13 (by omega)
  obtain ⟨π, hR⟩ := h1.2.2.2.2.2 13 (by omega)
  rw [h2] at hR
  exact ⟨_, π, h1.2.2.1, hZ.2 _ h13, hR, by omega, by omega⟩
theorem ans_set {b : Nat → Nat} {t tab v' : Nat} (hB : BOk b) (ht : t < 16) : (∀ k, 84 ≤ k → setRow b t tab v' (if tab = 0 then 0 else 1) (if tab = 0 then 0 else 100) 0 k = b k) ∧ ∀ pre, Prs b pre → ∀ x ∈ pre, x.1 = 0 → setRow b t tab v' (if tab = 0 then 0 else 1) (if tab = 0 then 0 else 100) 0 x.2.1 = b x.2.1 :=
  ⟨fun k hk => setRow_hi ht hk, wid_same hB fun s hs => setRow_lo hs⟩
section ROWS2
variable {n : Nat} {Z : Zt} {c m : Nat} {g : Mem}
theorem a_dropRow (hn : 500 ≤ n) (hC : CZ Z c) (hM : MZ Z m) (hd : c + 1462 ≤ m) (x1 : Int32) (h : LInv c m g) : Agree c m (f_X10_dropRow n Z c x1) (f_X11_dropRow n Z m x1) g := by
  obtain ⟨b, hb, len, T, P, v, hP, hc, hm⟩ := h
  obtain ⟨⟨hB, hv0⟩, p2, p3, p4, p5⟩ := id hP
  rcases tag_cases (n := n) hB hC hM hc.1 hm.1 x1 with ⟨q1, q2⟩ | ⟨t, ht, rfl, q0, q1, q2⟩
  · refine agree_same (r := -1) hd hP hc hm ?_ ?_
    · unfold f_X10_dropRow; rw [grd_t hC.k, hC.f0, drf_s, q1, bnd_s, if_pos rfl]
    · unfold f_X11_dropRow; rw [grd_t hM.k, q2, bnd_s, if_pos rfl]
  have hB' := hB.drop ht
  have hup : ∀ k, 84 ≤ k → setRow b t 0 0 0 0 0 k = b k := fun k hk => setRow_hi ht hk
  have hwd := wid_same (b' := setRow b t 0 0 0 0 0) hB fun s hs => setRow_lo hs
  obtain ⟨v', hv'⟩ := p4.drop (b' := setRow b t 0 0 0 0 0) hB (fun s hs => setRow_lo hs) (fun s u hu e => by
    rw [setRow_4] at e
    rw [setRow_5]
    by_cases z : u = t
    · rw [if_pos z] at e; omega
    · rw [if_neg z] at e; rw [if_neg z]; exact ⟨e, rfl⟩) hup
  obtain ⟨g1, a1, a2, a3⟩ := c_record (n := n) (by omega) hC hB hc
  obtain ⟨g2, b1, b2, b3⟩ := s_remove (n := n) hC.st a2.1 ht
  obtain ⟨c1, c2⟩ := c_state a2 b3 b2 (a2.2.2.2.2.1.cong hup hwd)
  obtain ⟨g3, d1, d2, d3⟩ := c_refresh (n := n) (by omega) hC hB' hv' c1.1 c1.2.2.2.2.1 c1.2.2.2.2.2
  have hc3 : CInv g3 c (setRow b t 0 0 0 0 0) (rec4 hb b) len T P v' := by
    obtain ⟨e1, ⟨σ, e2⟩, e3, e4, e5, e6⟩ := c1
    exact ⟨e1.fr d3 (by omega), ⟨σ, e2.fr d3 (by omega)⟩, e3.fr d3 (by omega), e4.fr d3 (by omega), e5.fr d3 (by omega), d2⟩
  have F3 : Fr c (c + 1462) g g3 := (a3.trans c2).trans (d3.mono (by omega) (by omega))
  have hm1 := hm.fr F3 (by omega)
  obtain ⟨g4, k1, k2, k3, k4⟩ := m_record (n := n) (by omega) hM hm1
  obtain ⟨g5, l1, l2, l3⟩ := m_laysRow (n := n) (tab := 0) (v := 0) hM k2.1 ht (by omega)
  rw [if_pos rfl, if_pos rfl] at l2
  obtain ⟨e1, e2, e3⟩ := m_state k2 k3 l3 l2 v'
  have hlt := (bm_mk (tagB (setRow b t 0 0 0 0 0))).1
  refine agree_of (r := nI (pc 16 (mk (tagB (setRow b t 0 0 0 0 0)) 16))) hd (b := setRow b t 0 0 0 0 0) (hb := rec4 hb b) ⟨⟨hB', v', hv'⟩, fun x hx => ?_, p3, hv', p5⟩ ?_ hc3 ?_ e1 (k4.trans e3)
  · rcases rec4_mem hx with z | z
    · exact p2 x z
    · rw [z]; exact ⟨hB, hv0⟩
  · unfold f_X10_dropRow
    rw [grd_t hC.k, hC.f0, drf_s, q1, bnd_s, if_neg i10, hC.f2, drf_s, drf_s, a1, bnd_s, drf_s, b1, bnd_s, d1, bnd_s, drf_s, s_mask hC.st, bnd_s, hc3.1.m6, c_bits hlt, bnd_s]
  · have q2' : f_X11_isTag n Z m (nI t) g3 = some (1, g3) := by rw [m_isTag hB hM hm1.1 ht, if_neg q0]
    unfold f_X11_dropRow
    rw [grd_t hM.k, q2', bnd_s, if_neg i10, k1, bnd_s, show f_X11_laysRow n Z m (nI t) 0 0 g4 = some ((), g5) from l1, bnd_s, m_mask0 (by omega) hB' hM e1.1, bnd_s, m_ones (by omega) hlt, bnd_s]
theorem a_addRow (hn : 500 ≤ n) (hC : CZ Z c) (hM : MZ Z m) (hd : c + 1462 ≤ m) (x1 x2 : Int32) (h : LInv c m g) : Agree c m (f_X10_addRow n Z c x1 x2) (f_X11_addRow n Z m x1 x2) g := by
  obtain ⟨b, hb, len, T, P, v, hP, hc, hm⟩ := h
  obtain ⟨⟨hB, hv0⟩, p2, p3, p4, p5⟩ := id hP
  rcases pk_ix x1 (n := 4) (by omega) with q | q | ⟨tab, htab, rfl⟩
  · refine agree_same (r := -1) hd hP hc hm ?_ ?_
    · unfold f_X10_addRow; rw [grd_t hC.k, s_isTO (Or.inl q), bnd_s, if_pos rfl]
    · unfold f_X11_addRow; rw [grd_t hM.k, m_isTO (Or.inl q), bnd_s, if_pos rfl]
  · refine agree_same (r := -1) hd hP hc hm ?_ ?_
    · unfold f_X10_addRow; rw [grd_t hC.k, s_isTO (Or.inr q), bnd_s, if_pos rfl]
    · unfold f_X11_addRow; rw [grd_t hM.k, m_isTO (Or.inr q), bnd_s, if_pos rfl]
  obtain ⟨w1, w2⟩ := hB.1 tab htab
  have hp3 : 10 ^ b tab ≤ 10 ^ 3 := Nat.pow_le_pow_right (by omega) w2
  have hp1 : 0 < 10 ^ b tab := Nat.pow_pos (by omega)
  have hM2 : ∀ g, BIs g m b → f_X11_addRow n Z m (nI tab) x2 g = bnd (f_X11_in n Z x2 (0 : Int32) (nI (10 ^ b tab) - (1 : Int32)) g) (fun r12 g13 => if r12 = 0 then (some ((-2 : Int32), g13)) else (bnd (f_X11_freeTag n Z m g13) (fun r16 g17 => if r16 = (-6 : Int32) then (some ((-4 : Int32), g17)) else (bnd (f_X11_laysRow n Z m r16 (nI tab + (1 : Int32)) x2 g17) (fun r20 g21 => bnd (f_X11_isPossible n Z m g21) (fun r23 g24 => bnd (f_X11_laysRow n Z m r16 (0 : Int32) (0 : Int32) g24) (fun r26 g27 => if r23 = 0 then (some ((-4 : Int32), (sI g27 m 26 (0 : Int32)))) else (bnd (f_X11_records n Z m (sI g27 m 26 (0 : Int32))) (fun r30 g31 => bnd (f_X11_laysRow n Z m r16 (nI tab + (1 : Int32)) x2 g31) (fun r33 g34 => some (r16, g34))))))))))) := fun g hB => by
    unfold f_X11_addRow
    rw [grd_t hM.k, m_isT htab, bnd_s, if_neg i10, hM.f0, drf_s, grd_t hM.k0, hM.l0, grd_t (by rw [inr_eq (by omega)]; omega), clamp (by omega), hB tab (by omega), m_power (by omega) (by omega), bnd_s]
  have hC2 : f_X10_addRow n Z c (nI tab) x2 g = if x2 < 0 then some ((-2 : Int32), g) else bnd (f_X2_hasMoreDigits n Z x2 (nI (b tab)) g) fun r11 g12 => if r11 = 0 then (bnd (f_X8_freeTag n Z (c + 1) g12) fun r17 g18 => if 0 ≤ r17 then (bnd (f_X8_copy n Z (c + 9) (c + 1) g18) fun r25 g26 => bnd (f_X2_ofDecimal n Z x2 (nI (b tab)) g26) fun r30 g31 => bnd (f_X8_place n Z (c + 9) r17 (nI tab) r30 g31) fun r33 g34 => bnd (f_X0_compute n Z (c + 67) (c + 61) (c + 9) g34) fun r42 g43 => if r42 = 0 then some ((-4 : Int32), g43) else bnd (f_X1_record n Z (c + 17) (c + 1) g43) fun r50 g51 => bnd (f_X8_copy n Z (c + 1) (c + 9) g51) fun r57 g58 => bnd (f_X0_keepResult n Z (c + 67) g58) fun r62 g63 => some (r17, g63)) else some ((-4 : Int32), g18)) else some ((-2 : Int32), g12) := by
    unfold f_X10_addRow
    simp only [grd_t hC.k, s_isT htab, bnd_s, if_neg i10, hC.f0, hC.f1, hC.f2, hC.f6, hC.f7, drf_s, s_width hC.st hc.1 htab]
  rcases in_pred (n := n) (Z := Z) (k := 10 ^ b tab) hp1 (by omega) x2 with ⟨z1, z2⟩ | ⟨vv, hvv, rfl, z2⟩
  · refine agree_same (r := -2) hd hP hc hm ?_ ?_
    · rw [hC2]
      by_cases z : x2 < 0
      · rw [if_pos z]
      · obtain ⟨j, j1, rfl⟩ := nI_of z
        have := (nle (by omega) (by omega)).mp (z1.resolve_left z)
        rw [if_neg z, c_more (by omega) j1 (by omega), bnd_s, if_neg (show ¬ j < 10 ^ b tab by omega), if_neg i10]
    · rw [hM2 _ hm.1, z2, bnd_s, if_pos rfl]
  obtain ⟨o, ho, hoC⟩ := s_free (n := n) (by omega) hC.st hc.1
  have hC3 : f_X10_addRow n Z c (nI tab) (nI vv) g = bnd (f_X8_freeTag n Z (c + 1) g) fun r17 g18 => if 0 ≤ r17 then (bnd (f_X8_copy n Z (c + 9) (c + 1) g18) fun r25 g26 => bnd (f_X2_ofDecimal n Z (nI vv) (nI (b tab)) g26) fun r30 g31 => bnd (f_X8_place n Z (c + 9) r17 (nI tab) r30 g31) fun r33 g34 => bnd (f_X0_compute n Z (c + 67) (c + 61) (c + 9) g34) fun r42 g43 => if r42 = 0 then some ((-4 : Int32), g43) else bnd (f_X1_record n Z (c + 17) (c + 1) g43) fun r50 g51 => bnd (f_X8_copy n Z (c + 1) (c + 9) g51) fun r57 g58 => bnd (f_X0_keepResult n Z (c + 67) g58) fun r62 g63 => some (r17, g63)) else some ((-4 : Int32), g18) := by
    rw [hC2, if_neg (fun q => by rw [not_neg (by omega)] at q; exact q), c_more (by omega) (by omega) (by omega), bnd_s, if_pos hvv, if_pos rfl]
  have hfreeM : ∀ g, BIs g m b → f_X11_freeTag n Z m g = some (ftI o, g) := fun g hb => by
    obtain ⟨o', ho', e⟩ := m_free (n := n) (by omega) hB hM hb
    rw [ho.uniq ho']; exact e
  cases o with
  | none =>
    refine agree_same (r := -4) hd hP hc hm ?_ ?_
    · rw [hC3, hoC, bnd_s]; rfl
    · rw [hM2 _ hm.1, z2, bnd_s, if_neg i10, hfreeM _ hm.1, bnd_s]; rfl
  | some t =>
    obtain ⟨ht, ht0, -⟩ := ho
    have hnt : ¬ nI t = (-6 : Int32) := by
      have H : ∀ q : Fin 16, ¬ nI q.1 = (-6 : Int32) := by decide +kernel
      exact H ⟨t, ht⟩
    have hB' := hB.place ht htab hvv
    have hup : ∀ k, 84 ≤ k → setRow b t (tab + 1) vv 1 100 0 k = b k := fun k hk => setRow_hi ht hk
    have hwd := wid_same (b' := setRow b t (tab + 1) vv 1 100 0) hB fun s hs => setRow_lo hs
    obtain ⟨g1, a1, a2, a3⟩ := s_copy (n := n) (by omega) hC.tr hC.st hB (by omega) hc.1
    obtain ⟨g2, b1, b2, b3⟩ := s_place (n := n) (tab := tab) (v := vv) hC.tr a2 ht
    have F12 := a3.trans b3
    have hQ2 : CQ g2 (c + 61) (setRow b t (tab + 1) vv 1 100 0) := (hc.2.2.2.2.1.fr F12 (by omega)).cong hup hwd
    obtain ⟨ρ, C, r1, r2⟩ := hc.2.2.2.2.2.fr F12 (by omega)
    obtain ⟨oc, hoc, hoc2⟩ := c_comp (n := n) (by omega) hC hC.tr (by omega) hB' b2 hQ2 r1
    have hQM : setRow b t (tab + 1) vv 1 100 0 84 = 0 ∨ setRow b t (tab + 1) vv 1 100 0 84 ≠ 0 ∧ ∃ pre w, Prs (setRow b t (tab + 1) vv 1 100 0) pre ∧ qw (setRow b t (tab + 1) vv 1 100 0) pre = some w := by
      rcases hQ2 with ⟨y1, y2⟩ | ⟨y1, pre, w, y2, y3, y4⟩
      · exact Or.inl y1
      · exact Or.inr ⟨y1, pre, w, y2, y3⟩
    have hb0 : setRow (setRow b t (tab + 1) vv 1 100 0) t 0 0 0 0 0 = b := funext fun j => by
      have h5 := (hB.2.1 t ht).2.2.2.2.2 ht0
      by_cases j4 : j = 4 + 5 * t
      · rw [j4, setRow_4, if_pos rfl, ht0]
      by_cases j5 : j = 5 + 5 * t
      · rw [j5, setRow_5, if_pos rfl, h5.1]
      by_cases j6 : j = 6 + 5 * t
      · rw [j6, setRow_6, if_pos rfl, h5.2.1]
      by_cases j7 : j = 7 + 5 * t
      · rw [j7, setRow_7, if_pos rfl, h5.2.2.1]
      by_cases j8 : j = 8 + 5 * t
      · rw [j8, setRow_8, if_pos rfl, h5.2.2.2]
      unfold setRow
      rw [up_ne j8, up_ne j7, up_ne j6, up_ne j5, up_ne j4, up_ne j8, up_ne j7, up_ne j6, up_ne j5, up_ne j4]
    -- the reference tries
    have MTRY : ∀ gc, MInv gc m b hb len T P v → ∃ (r : Int32) (g7 : Mem), f_X11_addRow n Z m (nI tab) (nI vv) gc = (if r = 0 then some ((-4 : Int32), g7) else bnd (f_X11_records n Z m g7) (fun r30 g31 => bnd (f_X11_laysRow n Z m (nI t) (nI tab + (1 : Int32)) (nI vv) g31) (fun r33 g34 => some (nI t, g34)))) ∧ MInv g7 m b hb len T P v ∧ Fr m (m + 21) gc g7 ∧ (r = 0 ∧ (∀ u, ¬ Ans (setRow b t (tab + 1) vv 1 100 0) u) ∨ r = 1 ∧ ∃ u, Ans (setRow b t (tab + 1) vv 1 100 0) u) := fun gc hmc => by
      obtain ⟨g3, k1, k2, k3⟩ := m_laysRow (n := n) (tab := tab + 1) (v := vv) hM hmc.1 ht (by omega)
      rw [if_neg (by omega), if_neg (by omega)] at k2
      obtain ⟨r, g4, l1, l2, l3⟩ := m_possible (n := n) (by omega) hM hB' hQM k2
      obtain ⟨g5, o1, o2, o3⟩ := m_laysRow (n := n) (tab := 0) (v := 0) hM (k2.ch l2 fun j => by unfold pL; omega) ht (by omega)
      rw [if_pos rfl, if_pos rfl, hb0] at o2
      have CC : Ch (fun b j => b = m + 1 ∨ pL m b j) gc (sI g5 m 26 0) := (((k3.mono fun b j q => Or.inl q).trans (l2.mono fun b j q => Or.inr q)).trans (o3.mono fun b j q => Or.inl q)).sI (Or.inr (by unfold pL; omega))
      have hm7 : MInv (sI g5 m 26 0) m b hb len T P v := by
        obtain ⟨y1, y2, y3, y4, y5⟩ := hmc
        refine ⟨o2.ch (Ch.rfl.sI (P := fun b j => b = m) rfl) fun j => by omega, y2.ch CC ⟨by unfold pL; omega, fun j => by unfold pL; omega⟩, ⟨(CC.i (by unfold pL; omega)).trans y3.1, fun j hj => (CC.i (by unfold pL; omega)).trans (y3.2 j hj)⟩, ⟨(CC.i (by unfold pL; omega)).trans y4.1, fun j hj => (CC.i (by unfold pL; omega)).trans (y4.2 j hj)⟩, Or.inl ?_⟩
        rw [gI_sI, if_pos ⟨rfl, rfl⟩]
      refine ⟨r, sI g5 m 26 0, ?_, hm7, CC.fr fun b j q => by unfold pL at q; omega, l3⟩
      rw [hM2 _ hmc.1, z2, bnd_s, if_neg i10, hfreeM _ hmc.1, bnd_s]
      show (if nI t = (-6 : Int32) then _ else _) = _
      rw [if_neg hnt]
      show bnd (f_X11_laysRow n Z m (nI t) (nI tab + (1 : Int32)) (nI vv) gc) _ = _
      rw [nI_1, k1, bnd_s, l1, bnd_s]
      show bnd (f_X11_laysRow n Z m (nI t) 0 0 g4) _ = _
      rw [show f_X11_laysRow n Z m (nI t) 0 0 g4 = some ((), g5) from o1, bnd_s]
      rfl
    have hC4 : f_X10_addRow n Z c (nI tab) (nI vv) g = bnd (f_X0_compute n Z (c + 67) (c + 61) (c + 9) g2) (fun r42 g43 => if r42 = 0 then (some ((-4 : Int32), g43)) else (bnd (f_X1_record n Z (c + 17) (c + 1) g43) (fun r50 g51 => bnd (f_X8_copy n Z (c + 1) (c + 9) g51) (fun r57 g58 => bnd (f_X0_keepResult n Z (c + 67) g58) (fun r62 g63 => some (nI t, g63)))))) := by
      rw [hC3, hoC, bnd_s]
      show (if 0 ≤ nI t then _ else _) = _
      rw [if_pos (nI_pos' (by omega)), a1, bnd_s, c_ofDec (by omega) hvv w2, bnd_s]
      show bnd (f_X8_place n Z (c + 9) (nI t) (nI tab) (nI (pk vv)) g1) _ = _
      rw [b1, bnd_s]
    cases oc with
    | none =>
      obtain ⟨g3, ρ', C', e1, e2, e3, e4⟩ := hoc
      have FC : Fr c (c + 1462) g g3 := (F12.mono (by omega) (by omega)).trans (e3.mono (by omega) (by omega))
      have hc3 : CInv g3 c b hb len T P v := by
        obtain ⟨y1, ⟨σ, y2⟩, y3, y4, y5, y6⟩ := hc
        exact ⟨(y1.fr F12 (by omega)).fr e3 (by omega), ⟨σ, (y2.fr F12 (by omega)).fr e3 (by omega)⟩, (y3.fr F12 (by omega)).fr e3 (by omega), (y4.fr F12 (by omega)).fr e3 (by omega), (y5.fr F12 (by omega)).fr e3 (by omega), ρ', C', e2, e4.trans r2⟩
      obtain ⟨r, g7, t1, t2, t3, t4⟩ := MTRY g3 (hm.fr FC (by omega))
      have hno : ∀ u, ¬ Ans (setRow b t (tab + 1) vv 1 100 0) u := fun u hu => by have := (hoc2 u).mpr hu; cases this
      have hr0 : r = 0 := by
        rcases t4 with ⟨y, _⟩ | ⟨_, u, y⟩
        · exact y
        · exact absurd y (hno u)
      refine agree_of (r := -4) hd hP ?_ hc3 ?_ t2 t3
      · rw [hC4, e1, bnd_s, if_pos rfl]
      · rw [t1, if_pos hr0]
    | some v' =>
      have hv' := (hoc2 v').mp rfl
      obtain ⟨g3, ρ', C', e1, e2, e3, e4, e5⟩ := hoc
      have FC : Fr c (c + 1462) g g3 := (F12.mono (by omega) (by omega)).trans (e4.mono (by omega) (by omega))
      have hc3 : CInv g3 c b hb len T P v := by
        obtain ⟨y1, ⟨σ, y2⟩, y3, y4, y5, y6⟩ := hc
        exact ⟨(y1.fr F12 (by omega)).fr e4 (by omega), ⟨σ, (y2.fr F12 (by omega)).fr e4 (by omega)⟩, (y3.fr F12 (by omega)).fr e4 (by omega), (y4.fr F12 (by omega)).fr e4 (by omega), (y5.fr F12 (by omega)).fr e4 (by omega), ρ', C', e2, e5.trans r2⟩
      obtain ⟨g4, s2, s3, s4, s5⟩ := h_record (n := n) (by omega) hC.hi hC.st hB (by omega) hc3.2.1.choose_spec hc3.1
      obtain ⟨g5, u1, u2, u3⟩ := s_copy (n := n) (by omega) hC.st hC.tr hB' (by omega) ((b2.fr e4 (by omega)).fr s5 (by omega))
      have e2' := (e2.fr s5 (by omega)).fr u3 (by omega)
      obtain ⟨g6, ρ6, C6, x1, x2, x3, x4⟩ := c_keep (n := n) hC.ev e2'
      have hc6 : CInv g6 c (setRow b t (tab + 1) vv 1 100 0) (rec4 hb b) len T P v' := by
        obtain ⟨y1, ⟨σ, y2⟩, y3, y4, y5, y6⟩ := hc3
        exact ⟨u2.fr x4 (by omega), ⟨s2, (s4.fr u3 (by omega)).fr x4 (by omega)⟩, ((y3.fr s5 (by omega)).fr u3 (by omega)).fr x4 (by omega), ((y4.fr s5 (by omega)).fr u3 (by omega)).fr x4 (by omega), (((y5.fr s5 (by omega)).fr u3 (by omega)).fr x4 (by omega)).cong hup hwd, ρ6, C6, x2, x3.trans e3⟩
      have FG : Fr c (c + 1462) g g6 := FC.trans ((s5.mono (by omega) (by omega)).trans ((u3.mono (by omega) (by omega)).trans (x4.mono (by omega) (by omega))))
      obtain ⟨r, g7, t1, t2, t3, t4⟩ := MTRY g6 (hm.fr FG (by omega))
      have hr1 : r = 1 := by
        rcases t4 with ⟨_, y⟩ | ⟨y, _⟩
        · exact absurd hv' (y v')
        · exact y
      obtain ⟨g8, k1, k2, k3, k4⟩ := m_record (n := n) (by omega) hM t2
      obtain ⟨g9, l1, l2, l3⟩ := m_laysRow (n := n) (tab := tab + 1) (v := vv) hM k2.1 ht (by omega)
      rw [if_neg (by omega), if_neg (by omega)] at l2
      obtain ⟨w1', w2', w3'⟩ := m_state k2 k3 l3 l2 v'
      refine agree_of (r := nI t) hd (b := setRow b t (tab + 1) vv 1 100 0) (hb := rec4 hb b) ⟨⟨hB', v', hv'⟩, fun x hx => ?_, p3, hv', p5⟩ ?_ hc6 ?_ w1' (t3.trans (k4.trans w3'))
      · rcases rec4_mem hx with z | z
        · exact p2 x z
        · rw [z]; exact ⟨hB, hv0⟩
      · rw [hC4, e1, bnd_s, if_neg i10, s3, bnd_s, u1, bnd_s, x1, bnd_s]
      · rw [t1, hr1, if_neg i10, k1, bnd_s, nI_1, l1, bnd_s]
end ROWS2

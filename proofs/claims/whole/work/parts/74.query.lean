/-! setQuery, dropQuery, undo, the answer's size -/
theorem st_setQ {g g' : Mem} {a len : Nat} {b T : Nat → Nat} (h : StIs g a b) (hF : Fr (a + 6) (a + 8) g g') (hL : LIs g' (a + 6) len T) : StIs g' a (setQ b len T) := by
  obtain ⟨h1, h2, ⟨M, h3, h3'⟩, ⟨W, h4, h4'⟩, h5⟩ := h
  refine ⟨fun t ht => ?_, fun t ht hb => ?_, ⟨M, ?_, ?_⟩, ⟨W, ?_, ?_⟩, ?_⟩
  · rw [setQ_lo (by omega), hF.i (by omega)]; exact h1 t ht
  · rw [setQ_lo (by omega)] at hb
    rw [setQ_lo (by omega), setQ_lo (by omega), setQ_lo (by omega), setQ_lo (by omega), hF.i (by omega), hF.i (by omega), hF.i (by omega), hF.i (by omega)]
    exact h2 t ht hb
  · rw [hF.i (by omega)]; exact h3
  · exact h3'.cong fun t ht => by rw [setQ_lo (by omega)]
  · rw [hF.i (by omega)]; exact h4
  · exact h4'.cong fun t ht => by rw [setQ_lo (by omega)]
  · rw [setQ_84]
    exact hL.cong fun k hk => (setQ_85).symm
/-- a text that is a query, where it fits and is not too large -/
theorem ans_setQ {b T : Nat → Nat} {len w : Nat} {pre S : List Nd} {v : Vl} (hB : BOk b) (hT : TOk T len) (hp : prunT T = (len, some (pre, S))) (hw : qw b pre = some w) (hv : qv b pre = some v) : Ans (setQ b len T) v := by
  obtain ⟨k1, k2, k3, k4, k5⟩ := prunT_ok hT hp
  obtain ⟨e1, e2⟩ := qv_setQ (b := b) (len := len) (T := T) k3
  refine Or.inr ⟨?_, pre, w, ⟨S, by rw [setQ_tq hT, setQ_84]; exact hp⟩, by rw [e2]; exact hw, by rw [e1]; exact hv⟩
  rw [setQ_84]
  intro z
  rw [prunT_empty (hT.2.2 0 (by omega))] at hp
  cases hp
theorem c_rows {n : Nat} {Z : Zt} {c : Nat} {g : Mem} {v : Vl} (hC : CZ Z c) (h : EA g (c + 67) v) : f_X10_answerRows n Z c g = some (nI v.2.length, g) := by
  obtain ⟨q, π, h1, h2, h3, h4⟩ := h.at hC.ev
  unfold f_X10_answerRows f_X0_answer
  rw [grd_t hC.k, hC.f7, drf_s, grd_t hC.ev.1.1, h1, nam_s, bnd_s, drf_s, r_size h2 h3, bnd_s, pkR_len]
theorem c_cols {n : Nat} {Z : Zt} {c : Nat} {g : Mem} {v : Vl} (hC : CZ Z c) (h : EA g (c + 67) v) : f_X10_answerColumns n Z c g = some (nI v.1, g) := by
  obtain ⟨q, π, h1, h2, h3, h4⟩ := h.at hC.ev
  unfold f_X10_answerColumns f_X0_answer
  rw [grd_t hC.k, hC.f7, drf_s, grd_t hC.ev.1.1, h1, nam_s, bnd_s, drf_s, r_width h2 h3, bnd_s]
theorem sq_l56 {n : Nat} {Z : Zt} {m len : Nat} {b T : Nat → Nat} {g0 : Mem} (hM : MZ Z m) (hT : TOk T len) (h4 : gI g0 m 4 = nI len) (h3 : ∀ j, j < len → gI g0 (m + 3) j = nI (T j)) : ∀ (d k fu : Nat) (g : Mem), d = 60 - k → k ≤ 60 → d < fu → Ch (fun b _ => b = m + 1) g0 g → (∀ j, j < 85 → gI g (m + 1) j = nI (setQ b len T j)) → (∀ j, j < k → gI g (m + 1) (85 + j) = nI (T j)) → ∃ g', f_X11_setQuery_l56 n Z m fu (nI k) g = bnd (f_X11_laysAnswer n Z m g') (fun _ g25 => drf (zf Z m 19) (fun b27 => grd (zk Z b27 = 12) (grd (inr (0 : Int32) (zl Z b27)) (some ((gI g25 b27 (0 : Int32).toNatClampNeg), g25))))) ∧ BIs g' m (setQ b len T) ∧ Ch (fun b _ => b = m + 1) g0 g' := by
  have hl := hT.1
  intro d
  induction d with
  | zero =>
    intro k fu g h1 h2 h5 h6 h7 h8
    obtain ⟨fu, rfl⟩ : ∃ q, fu = q + 1 := ⟨fu - 1, by omega⟩
    have hk : k = 60 := by omega
    subst hk
    refine ⟨g, ?_, fun j hj => ?_, h6⟩
    · rw [f_X11_setQuery_l56, if_pos (show (60 : Int32) ≤ nI 60 by decide)]
    · by_cases z : j < 85
      · exact h7 j z
      · have := h8 (j - 85) (by omega)
        rw [show 85 + (j - 85) = j by omega] at this
        rw [this, show j = 85 + (j - 85) by omega, setQ_85, show 85 + (j - 85) - 85 = j - 85 by omega]
  | succ d ih =>
    intro k fu g h1 h2 h5 h6 h7 h8
    obtain ⟨fu, rfl⟩ : ∃ q, fu = q + 1 := ⟨fu - 1, by omega⟩
    have e1 : (85 : Int32) + nI k = nI (85 + k) := nI_add 85 k
    have e4 : gI g m 4 = nI len := (h6.i (by omega)).trans h4
    rw [f_X11_setQuery_l56, if_neg (show ¬ (60 : Int32) ≤ nI k from ge_n (N := 60) (by omega) (by omega)), hM.f0, drf_s, e4, e1]
    have step : ∀ x : Int32, x = nI (T k) → ∃ g', f_X11_setQuery_l56 n Z m fu (nI (k + 1)) (sI g (m + 1) (85 + k) x) = bnd (f_X11_laysAnswer n Z m g') (fun _ g25 => drf (zf Z m 19) (fun b27 => grd (zk Z b27 = 12) (grd (inr (0 : Int32) (zl Z b27)) (some ((gI g25 b27 (0 : Int32).toNatClampNeg), g25))))) ∧ BIs g' m (setQ b len T) ∧ Ch (fun b _ => b = m + 1) g0 g' := fun x hx => by
      refine ih (k + 1) fu _ (by omega) (by omega) (by omega) (h6.sI rfl) (fun j hj => by rw [gI_sI, if_neg (by omega)]; exact h7 j hj) fun j hj => ?_
      rw [gI_sI]
      by_cases z : j = k
      · rw [if_pos ⟨rfl, by omega⟩, hx, z]
      · rw [if_neg (by omega)]; exact h8 j (by omega)
    by_cases z : k < len
    · rw [if_neg (ge_n (by omega) z), hM.f3, drf_s]
      have e3 : gI g (m + 3) k = nI (T k) := (h6.i (by omega)).trans (h3 k z)
      simp (disch := omega) only [hM.k0, hM.l0, hM.k3, hM.l3, grd_t, grd_true, inr_eq, clamp, e3, nI_1]
      exact step _ rfl
    · rw [if_pos ((nle (by omega) (by omega)).mpr (by omega))]
      simp (disch := omega) only [hM.k0, hM.l0, grd_t, grd_true, inr_eq, clamp, nI_1]
      exact step _ (by rw [hT.2.2 k (by omega)]; rfl)
section QUERY2
variable {n : Nat} {Z : Zt} {c m : Nat} {g : Mem}
theorem m_rows {len : Nat} {b : Nat → Nat} {hb : List (Nat → Nat)} {T : Nat → Nat} {P : List Nat} {v : Vl} (hn : 500 ≤ n) (hM : MZ Z m) (hB : BOk b) (hv : Ans b v) (hm : MInv g m b hb len T P v) : ∃ g', f_X11_laysAnswer n Z m g = some ((), g') ∧ MInv g' m b hb len T P v ∧ gI g' (m + 13) 0 = nI v.2.length ∧ gI g' (m + 12) 0 = nI v.1 ∧ MR g' m 0 v.1 v.2 ∧ gI g' m 26 = 1 ∧ Fr m (m + 21) g g' := by
  obtain ⟨g', a1, a2, a3, a4, a5⟩ := m_lays_ans (n := n) (by omega) hM hB hv hm
  exact ⟨g', a1, a2, a4.2.1, a4.1, a4, a3, a5.fr fun b j q => by unfold pL at q; omega⟩
theorem a_answerRows (hn : 500 ≤ n) (hC : CZ Z c) (hM : MZ Z m) (hd : c + 1462 ≤ m) (h : LInv c m g) : Agree c m (f_X10_answerRows n Z c) (f_X11_answerRows n Z m) g := by
  obtain ⟨b, hb, len, T, P, v, hP, hc, hm⟩ := h
  obtain ⟨g', a1, a2, a3, a4, a5, a6, a7⟩ := m_rows (n := n) hn hM hP.1.1 hP.2.2.2.1 hm
  refine agree_of (r := nI v.2.length) hd hP (c_rows hC hc.2.2.2.2.2) hc ?_ a2 a7
  unfold f_X11_answerRows
  rw [grd_t hM.k, a1, bnd_s, hM.f19, drf_s, grd_t hM.k19, hM.l19, grd_t (show inr (0 : Int32) 14 by decide), show (0 : Int32).toNatClampNeg = 0 from rfl, a3]
theorem a_answerColumns (hn : 500 ≤ n) (hC : CZ Z c) (hM : MZ Z m) (hd : c + 1462 ≤ m) (h : LInv c m g) : Agree c m (f_X10_answerColumns n Z c) (f_X11_answerColumns n Z m) g := by
  obtain ⟨b, hb, len, T, P, v, hP, hc, hm⟩ := h
  obtain ⟨g', a1, a2, a3, a4, a5, a6, a7⟩ := m_rows (n := n) hn hM hP.1.1 hP.2.2.2.1 hm
  refine agree_of (r := nI v.1) hd hP (c_cols hC hc.2.2.2.2.2) hc ?_ a2 a7
  unfold f_X11_answerColumns
  rw [grd_t hM.k, a1, bnd_s, hM.f18, drf_s, grd_t hM.k18, hM.l18, grd_t (show inr (0 : Int32) 14 by decide), show (0 : Int32).toNatClampNeg = 0 from rfl, a4]
theorem a_setQuery (hn : 500 ≤ n) (hC : CZ Z c) (hM : MZ Z m) (hd : c + 1462 ≤ m) (h : LInv c m g) : Agree c m (f_X10_setQuery n Z c) (f_X11_setQuery n Z m) g := by
  obtain ⟨b, hb, len, T, P, v, hP, hc, hm⟩ := h
  obtain ⟨⟨hB, hv0⟩, p2, p3, p4, p5⟩ := id hP
  -- reading
  obtain ⟨g1, a1, a2, a3⟩ := c_read (n := n) (by omega) hC.dr hC.tx p3 (by omega) hc.2.2.1
  have hc1 : CInv g1 c b hb len T P v := by
    obtain ⟨c1, ⟨σ, c2⟩, c3, c4, c5, c6⟩ := hc
    exact ⟨c1.fr a1 (by omega), ⟨σ, c2.fr a1 (by omega)⟩, c3.fr a1 (by omega), c4.fr a1 (by omega), c5.fr a1 (by omega), c6.fr a1 (by omega)⟩
  have FA : Fr c (c + 1462) g g1 := a1.mono (by omega) (by omega)
  have MRD : ∀ ga, MInv ga m b hb len T P v → ∃ g3, f_X11_setQuery n Z m ga = bnd (f_X11_reads n Z m g3) (fun r4 g5 => if r4 = 0 then (some ((-3 : Int32), g5)) else (bnd (f_X11_fits n Z m g5) (fun r8 g9 => if r8 = 0 then (some ((-5 : Int32), g9)) else (bnd (f_X11_works n Z m g9) (fun r12 g13 => if r12 = 0 then (some ((-4 : Int32), g13)) else (bnd (f_X11_records n Z m g13) (fun r16 g17 => f_X11_setQuery_l56 n Z m n (0 : Int32) (sI g17 (m + 1) 84 (gI g17 m 4))))))))) ∧ SrcIs g3 m len T ∧ Ch (pL m) ga g3 ∧ gI g3 m 26 = 0 := fun ga hma => by
    obtain ⟨g2, b1, b2, b3⟩ := m_takesText (n := n) (by omega) hM p3.1 hma.2.2.1.1 hma.2.2.1.2
    refine ⟨sI g2 m 26 0, ?_, ⟨by rw [gI_sI, if_neg (by omega)]; exact b2.1, fun k hk => by rw [gI_sI, if_neg (by omega)]; exact b2.2 k hk⟩, (b3.mono fun b j q => by unfold pL; omega).sI (by unfold pL; omega), by rw [gI_sI, if_pos ⟨rfl, rfl⟩]⟩
    unfold f_X11_setQuery
    rw [grd_t hM.k, b1, bnd_s]
    simp only [hM.f0, drf_s, hM.k0, hM.l0, grd_true, grd_t (show inr (84 : Int32) 145 by decide), show (84 : Int32).toNatClampNeg = 84 by decide]
  have hC2 : f_X10_setQuery n Z c g = bnd (f_X6_read n Z (c + 55) (c + 51) g) (fun r5 g6 => if r5 = 0 then (some ((-3 : Int32), g6)) else (bnd (f_X6_fits n Z (c + 55) (c + 1) g6) (fun r13 g14 => if r13 = 0 then (some ((-5 : Int32), g14)) else (bnd (f_X0_compute n Z (c + 67) (c + 55) (c + 1) g14) (fun r23 g24 => if r23 = 0 then (some ((-4 : Int32), g24)) else (bnd (f_X1_record n Z (c + 17) (c + 1) g24) (fun r31 g32 => bnd (f_X3_copy n Z (c + 1 + 6) (c + 51) g32) (fun r43 g44 => bnd (f_X6_read n Z (c + 61) (c + 1 + 6) g44) (fun r55 g56 => bnd (f_X0_keepResult n Z (c + 67) g56) (fun r60 g61 => bnd (f_X10_answerRows n Z c g61) (fun r63 g64 => some (r63, g64)))))))))))) := by
    unfold f_X10_setQuery
    simp only [grd_t hC.k, hC.f0, hC.f2, hC.f3, hC.f5, hC.f6, hC.f7, drf_s, s_line hC.st, bnd_s]
  by_cases hq : ∃ pre S, prunT T = (len, some (pre, S))
  case neg =>
    -- no query
    have hc' : f_X6_read n Z (c + 55) (c + 51) g = some (0, g1) := by
      cases hr : (prunT T).2 with
      | none => rw [hr] at a3; exact a3.1
      | some x =>
        rw [hr] at a3
        dsimp only at a3
        by_cases hl : (prunT T).1 = len
        · exact absurd ⟨x.1, x.2, by rw [← hl, show (x.1, x.2) = x from rfl, ← hr]⟩ hq
        · rw [if_neg hl] at a3; exact a3.2.1
    obtain ⟨g3, b1, b2, b3, b4⟩ := MRD g1 (hm.fr FA (by omega))
    obtain ⟨g4, d1, d2, d3⟩ := m_reads (n := n) (by omega) hM p3 b2
    have F4 : Ch (pL m) g1 g4 := b3.trans (d1.mono fun b j q => pP_L q)
    have k26 : gI g4 m 26 = 0 := by rw [d1.i (by unfold pP; omega), b4]
    have hm' : f_X11_reads n Z m g3 = some (0, g4) := by
      cases hr : (prunT T).2 with
      | none => rw [hr] at d3; exact d3
      | some x =>
        rw [hr] at d3
        dsimp only at d3
        by_cases hl : (prunT T).1 = len
        · exact absurd ⟨x.1, x.2, by rw [← hl, show (x.1, x.2) = x from rfl, ← hr]⟩ hq
        · rw [if_neg hl] at d3; exact d3.2
    refine agree_of (r := -3) hd hP ?_ hc1 ?_ ((hm.fr FA (by omega)).work F4 (v' := v) (Or.inl k26)) (F4.fr fun b j q => by unfold pL at q; omega)
    · rw [hC2, hc', bnd_s, if_pos rfl]
    · rw [b1, hm', bnd_s, if_pos rfl]
  obtain ⟨pre, S, hp⟩ := hq
  obtain ⟨k1, k2, k3, k4, k5⟩ := prunT_ok p3 hp
  have hl60 := p3.1
  rw [hp] at a2 a3
  dsimp only at a3
  rw [if_pos rfl] at a3
  obtain ⟨a31, a32, a33⟩ := a3
  obtain ⟨g2, e1, e2⟩ := c_fits (n := n) (by omega) hB hC.dr hC.st k3 k1 (by omega) (by omega) a31 hc1.1
  have F2 : Fr c (c + 1462) g g2 := FA.trans (e2.mono (by omega) (by omega))
  have hc2 : CInv g2 c b hb len T P v := by
    obtain ⟨c1, ⟨σ, c2⟩, c3, c4, c5, c6⟩ := hc1
    exact ⟨c1.fr e2 (by omega), ⟨σ, c2.fr e2 (by omega)⟩, c3.fr e2 (by omega), c4.fr e2 (by omega), c5.fr e2 (by omega), c6.fr e2 (by omega)⟩
  -- the reference up to fits
  have MFT : ∀ ga, MInv ga m b hb len T P v → ∃ g5, f_X11_setQuery n Z m ga = (if (if (qw b pre).isSome then (1 : Int32) else 0) = 0 then (some ((-5 : Int32), g5)) else (bnd (f_X11_works n Z m g5) (fun r12 g13 => if r12 = 0 then (some ((-4 : Int32), g13)) else (bnd (f_X11_records n Z m g13) (fun r16 g17 => f_X11_setQuery_l56 n Z m n (0 : Int32) (sI g17 (m + 1) 84 (gI g17 m 4))))))) ∧ SIs g5 m (post pre) ∧ MInv g5 m b hb len T P v ∧ gI g5 m 26 = 0 ∧ Ch (pL m) ga g5 := fun ga hma => by
    obtain ⟨g3, b1, b2, b3, b4⟩ := MRD ga hma
    obtain ⟨g4, d1, d2, d3⟩ := m_reads (n := n) (by omega) hM p3 b2
    rw [hp] at d2 d3
    dsimp only at d3
    rw [if_pos rfl, k2] at d3
    have F4 : Ch (pL m) ga g4 := b3.trans (d1.mono fun b j q => pP_L q)
    have hB4 : BIs g4 m b := hma.1.ch F4 fun j => by unfold pL; omega
    obtain ⟨g5, l1, l2⟩ := m_fits (n := n) (by omega) hM hB hB4 k1 (by omega) k3 d3.1
    have F5 : Ch (pL m) ga g5 := F4.trans (l2.mono fun b j q => pF_L q)
    have k26 : gI g5 m 26 = 0 := by rw [l2.i (by unfold pF; omega), d1.i (by unfold pP; omega), b4]
    refine ⟨g5, ?_, ⟨(l2.i (by unfold pF; omega)).trans d3.1.1, fun k hk => (d3.1.2 k hk).ch l2 fun b hb => by unfold pF; omega⟩, hma.work F5 (v' := v) (Or.inl k26), k26, F5⟩
    rw [b1, d3.2, bnd_s, if_neg i10, l1, bnd_s]
  by_cases hfit : (qw b pre).isSome = true
  case neg =>
    obtain ⟨g5, f1, f2, f3, f4, f5⟩ := MFT g2 (hm.fr F2 (by omega))
    refine agree_of (r := -5) hd hP ?_ hc2 ?_ f3 (f5.fr fun b j q => by unfold pL at q; omega)
    · rw [hC2, a32, bnd_s, if_neg i10, e1, bnd_s, if_neg hfit, if_pos rfl]
    · rw [f1, if_neg hfit, if_pos rfl]
  obtain ⟨w, hw⟩ := Option.isSome_iff_exists.mp hfit
  obtain ⟨ρ, C, r1, r2⟩ := hc2.2.2.2.2.2
  have hQ2 : QIs g2 (c + 55) pre := a31.ch e2.ch ⟨by omega, fun b j hb => by omega⟩
  have hQ9 : gI g2 (c + 55) 9 = 1 := (e2.i (by omega) _).trans a33
  have hV := c_compute (n := n) (by omega) hC.ev hC.dr hC.st hB (by omega) (by omega) k3 k1 (by omega) hw hQ2 hQ9 hc2.1 r1
  have hC3 : f_X10_setQuery n Z c g = bnd (f_X0_compute n Z (c + 67) (c + 55) (c + 1) g2) (fun r23 g24 => if r23 = 0 then (some ((-4 : Int32), g24)) else (bnd (f_X1_record n Z (c + 17) (c + 1) g24) (fun r31 g32 => bnd (f_X3_copy n Z (c + 1 + 6) (c + 51) g32) (fun r43 g44 => bnd (f_X6_read n Z (c + 61) (c + 1 + 6) g44) (fun r55 g56 => bnd (f_X0_keepResult n Z (c + 67) g56) (fun r60 g61 => bnd (f_X10_answerRows n Z c g61) (fun r63 g64 => some (r63, g64)))))))) := by
    rw [hC2, a32, bnd_s, if_neg i10, e1, bnd_s, if_pos hfit, if_neg i10]
  cases hv : qv b pre with
  | none =>
    rw [hv] at hV
    obtain ⟨g3, ρ', C', v1, v2, v3, v4⟩ := hV
    have F3 : Fr c (c + 1462) g g3 := F2.trans (v3.mono (by omega) (by omega))
    have hc3 : CInv g3 c b hb len T P v := by
      obtain ⟨y1, ⟨σ, y2⟩, y3, y4, y5, y6⟩ := hc2
      exact ⟨y1.fr v3 (by omega), ⟨σ, y2.fr v3 (by omega)⟩, y3.fr v3 (by omega), y4.fr v3 (by omega), y5.fr v3 (by omega), ρ', C', v2, v4.trans r2⟩
    obtain ⟨g5, f1, f2, f3, f4, f5⟩ := MFT g3 (hm.fr F3 (by omega))
    obtain ⟨g6, w1, w2⟩ := m_works (n := n) (by omega) hM hB f3.1 k1 (by omega) k3 ⟨w, hw⟩ f2
    rw [hv] at w2
    have F6 : Ch (pL m) g3 g6 := f5.trans (w1.mono fun b j q => pW_L q)
    have k26 : gI g6 m 26 = 0 := by rw [w1.i (by unfold pW; omega), f4]
    refine agree_of (r := -4) hd hP ?_ hc3 ?_ ((hm.fr F3 (by omega)).work F6 (v' := v) (Or.inl k26)) (F6.fr fun b j q => by unfold pL at q; omega)
    · rw [hC3, v1, bnd_s, if_pos rfl]
    · rw [f1, if_pos hfit, if_neg i10, w2, bnd_s, if_pos rfl]
  | some v' =>
    rw [hv] at hV
    obtain ⟨g3, ρ', C', v1, v2, v3, v4, v5⟩ := hV
    have hA' := ans_setQ hB p3 hp hw hv
    have hB' := hB.setQ p3
    have F3 : Fr c (c + 1462) g g3 := F2.trans (v4.mono (by omega) (by omega))
    have hc3 : CInv g3 c b hb len T P v := by
      obtain ⟨y1, ⟨σ, y2⟩, y3, y4, y5, y6⟩ := hc2
      exact ⟨y1.fr v4 (by omega), ⟨σ, y2.fr v4 (by omega)⟩, y3.fr v4 (by omega), y4.fr v4 (by omega), y5.fr v4 (by omega), ρ', C', v2, v5.trans r2⟩
    obtain ⟨y1, ⟨σ, y2⟩, y3, y4, y5, y6⟩ := hc3
    obtain ⟨g4, σ', s1, s2, s3⟩ := h_record (n := n) (by omega) hC.hi hC.st hB (by omega) y2 y1
    obtain ⟨g5, t1, t2, t3⟩ := l_copy (n := n) (g := g4) (len := len) (c := T) (by omega) hC.st.2 hC.tx (by omega) (by omega) hl60 hl60 (by omega) (fun k hk => by have := p3.2.1 k hk; omega) (y3.fr s3 (by omega))
    have hS5 := st_setQ (y1.fr s3 (by omega)) (t3.mono (by omega) (by omega)) t2
    obtain ⟨r6, g6, u1, u2, u3⟩ := c_reread (n := n) (by omega) hC ⟨hB', v', hA'⟩ hS5
    have hE6 := ((v2.fr s3 (by omega)).fr t3 (by omega)).fr u3 (by omega)
    obtain ⟨g7, ρ7, C7, x1, x2, x3, x4⟩ := c_keep (n := n) hC.ev hE6
    have hEA : EA g7 (c + 67) v' := ⟨ρ7, C7, x2, x3.trans v3⟩
    have hc7 : CInv g7 c (setQ b len T) (rec4 hb b) len T P v' := ⟨(hS5.fr u3 (by omega)).fr x4 (by omega), ⟨σ', ((s2.fr t3 (by omega)).fr u3 (by omega)).fr x4 (by omega)⟩, (((y3.fr s3 (by omega)).fr t3 (by omega)).fr u3 (by omega)).fr x4 (by omega), (((y4.fr s3 (by omega)).fr t3 (by omega)).fr u3 (by omega)).fr x4 (by omega), u2.fr x4 (by omega), hEA⟩
    have F7 : Fr c (c + 1462) g g7 := F3.trans ((s3.mono (by omega) (by omega)).trans ((t3.mono (by omega) (by omega)).trans ((u3.mono (by omega) (by omega)).trans (x4.mono (by omega) (by omega)))))
    obtain ⟨ga, f1, f2, f3, f4, f5⟩ := MFT g7 (hm.fr F7 (by omega))
    obtain ⟨gb, w1, w2⟩ := m_works (n := n) (by omega) hM hB f3.1 k1 (by omega) k3 ⟨w, hw⟩ f2
    rw [hv] at w2
    have k26 : gI gb m 26 = 0 := by rw [w1.i (by unfold pW; omega), f4]
    have hmb : MInv gb m b hb len T P v := f3.work (w1.mono fun b j q => pW_L q) (v' := v) (Or.inl k26)
    obtain ⟨gc, z1, z2, z3, z4⟩ := m_record (n := n) (by omega) hM hmb
    have h84 : gI gc m 4 = nI len := z2.2.2.1.1
    have C0 : Ch (fun b _ => b = m + 1) gc (sI gc (m + 1) 84 (nI len)) := Ch.rfl.sI rfl
    obtain ⟨gd, o1, o2, o3⟩ := sq_l56 (n := n) (b := b) (g0 := sI gc (m + 1) 84 (nI len)) hM p3 (by rw [gI_sI, if_neg (by omega)]; exact h84) (fun j hj => by rw [gI_sI, if_neg (by omega)]; exact z2.2.2.1.2 j hj) 60 0 n _ (by omega) (by omega) (by omega) Ch.rfl (fun j hj => by
      rw [gI_sI]
      by_cases q : j = 84
      · rw [if_pos ⟨rfl, q⟩, q, setQ_84]
      · rw [if_neg (fun z => q z.2), setQ_lo (by omega)]; exact z2.1 j (by omega)) (fun j hj => absurd hj (Nat.not_lt_zero _))
    obtain ⟨i1, i2, i3⟩ := m_state z2 z3 (C0.trans o3) o2 v'
    obtain ⟨ge, q1, q2, q3, q4, q5, q6, q7⟩ := m_rows (n := n) hn hM hB' hA' i1
    refine agree_of (r := nI v'.2.length) hd (b := setQ b len T) (hb := rec4 hb b) ⟨⟨hB', v', hA'⟩, fun x hx => ?_, p3, hA', p5⟩ ?_ hc7 ?_ q2 ((((f5.trans (w1.mono fun b j q => pW_L q)).fr fun b j q => by unfold pL at q; omega).trans z4).trans (i3.trans q7))
    · rcases rec4_mem hx with z | z
      · exact p2 x z
      · rw [z]; exact ⟨hB, hv0⟩
    · rw [hC3, v1, bnd_s, if_neg i10, s1, bnd_s, t1, bnd_s, u1, bnd_s, x1, bnd_s, c_rows hC hEA, bnd_s]
    · rw [f1, if_pos hfit, if_neg i10, w2.1, bnd_s, if_neg i10, z1, bnd_s, h84]
      show f_X11_setQuery_l56 n Z m n (nI 0) _ = _
      rw [o1, q1, bnd_s, hM.f19, drf_s, grd_t hM.k19, hM.l19, grd_t (show inr (0 : Int32) 14 by decide), show (0 : Int32).toNatClampNeg = 0 from rfl, q3]
end QUERY2

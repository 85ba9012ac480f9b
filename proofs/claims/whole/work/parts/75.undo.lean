/-! dropQuery, undo -/
theorem dq_l31 {n : Nat} {Z : Zt} {m : Nat} {b : Nat → Nat} {x : Int32} {g0 : Mem} (hM : MZ Z m) (hB : BIs g0 m b) : ∀ (d k fu : Nat) (g : Mem), d = 145 - k → 84 ≤ k → k ≤ 145 → d < fu → Ch (fun b _ => b = m + 1) g0 g → (∀ j, j < 145 → gI g (m + 1) j = if 84 ≤ j ∧ j < k then 0 else nI (b j)) → ∃ g', f_X11_dropQuery_l31 n Z m fu x (nI k) g = some (x, g') ∧ BIs g' m (setQ b 0 fun _ => 0) ∧ Ch (fun b _ => b = m + 1) g0 g' := by
  intro d
  induction d with
  | zero =>
    intro k fu g h1 h2 h3 h4 h5 h6
    obtain ⟨fu, rfl⟩ : ∃ q, fu = q + 1 := ⟨fu - 1, by omega⟩
    have hk : k = 145 := by omega
    subst hk
    refine ⟨g, ?_, fun j hj => ?_, h5⟩
    · unfold f_X11_dropQuery_l31; rw [if_pos (show (145 : Int32) ≤ nI 145 by decide)]
    · rw [h6 j hj]
      by_cases z : j < 84
      · rw [if_neg (by omega), setQ_lo z]
      · rw [if_pos (by omega)]
        by_cases y : j = 84
        · rw [y, setQ_84]; rfl
        · rw [show j = 85 + (j - 85) by omega, setQ_85]; rfl
  | succ d ih =>
    intro k fu g h1 h2 h3 h4 h5 h6
    obtain ⟨fu, rfl⟩ : ∃ q, fu = q + 1 := ⟨fu - 1, by omega⟩
    unfold f_X11_dropQuery_l31
    rw [if_neg (show ¬ (145 : Int32) ≤ nI k from ge_n (N := 145) (by omega) (by omega)), hM.f0, drf_s]
    simp (disch := omega) only [hM.k0, hM.l0, grd_t, grd_true, inr_eq, clamp, nI_1]
    refine ih (k + 1) fu _ (by omega) (by omega) (by omega) (by omega) (h5.sI rfl) fun j hj => ?_
    rw [gI_sI]
    by_cases z : j = k
    · rw [if_pos ⟨rfl, z⟩, if_pos (by omega)]
    · rw [if_neg (fun y => z y.2), h6 j hj]
      by_cases y : 84 ≤ j ∧ j < k
      · rw [if_pos y, if_pos (by omega)]
      · rw [if_neg y, if_neg (by omega)]
theorem ans_0 {b : Nat → Nat} : Ans (setQ b 0 fun _ => 0) dV := Or.inl ⟨setQ_84, rfl⟩
section UNDO
variable {n : Nat} {Z : Zt} {c m : Nat} {g : Mem}
theorem a_dropQuery (hn : 500 ≤ n) (hC : CZ Z c) (hM : MZ Z m) (hd : c + 1462 ≤ m) (h : LInv c m g) : Agree c m (f_X10_dropQuery n Z c) (f_X11_dropQuery n Z m) g := by
  obtain ⟨b, hb, len, T, P, v, hP, hc, hm⟩ := h
  obtain ⟨⟨hB, hv0⟩, p2, p3, p4, p5⟩ := id hP
  have h60 := hB.2.2.1
  have hC2 : f_X10_dropQuery n Z c g = if nI (b 84) = 0 then (some ((-5 : Int32), g)) else (bnd (f_X10_answerRows n Z c g) (fun r12 g13 => bnd (f_X1_record n Z (c + 17) (c + 1) g13) (fun r19 g20 => bnd (f_X3_clear n Z (c + 1 + 6) g20) (fun r29 g30 => bnd (f_X6_read n Z (c + 61) (c + 1 + 6) g30) (fun r41 g42 => bnd (f_X10_refreshAnswer n Z c g42) (fun r44 g45 => some (r12, g45))))))) := by
    unfold f_X10_dropQuery
    simp only [grd_t hC.k, hC.f0, hC.f2, hC.f6, drf_s, s_line hC.st, bnd_s, l_len hC.st.2, hc.1.2.2.2.2.1]
  have hM2 : ∀ g, MInv g m b hb len T P v → f_X11_dropQuery n Z m g = if nI (b 84) = 0 then (some ((-5 : Int32), g)) else (bnd (f_X11_laysAnswer n Z m g) (fun r6 g7 => bnd (f_X11_records n Z m g7) (fun r13 g14 => f_X11_dropQuery_l31 n Z m n (gI g7 (m + 13) 0) (84 : Int32) g14))) := fun g hm => by
    unfold f_X11_dropQuery
    simp only [grd_t hM.k, hM.f0, drf_s, hM.k0, hM.l0, grd_true, grd_t (show inr (84 : Int32) 145 by decide), show (84 : Int32).toNatClampNeg = 84 by decide, hm.1 84 (by decide), hM.f19, hM.k19, hM.l19, grd_t (show inr (0 : Int32) 14 by decide), show (0 : Int32).toNatClampNeg = 0 from rfl]
  by_cases q0 : b 84 = 0
  · refine agree_same (r := -5) hd hP hc hm ?_ ?_
    · rw [hC2, q0, if_pos (show nI 0 = (0 : Int32) from rfl)]
    · rw [hM2 _ hm, q0, if_pos (show nI 0 = (0 : Int32) from rfl)]
  have hne : ¬ nI (b 84) = (0 : Int32) := neI (b := 0) (by omega) (by omega) q0
  have hB' := hB.setQ t0_ok
  have hS' : SOk (setQ b 0 fun _ => 0) := ⟨hB', dV, ans_0⟩
  obtain ⟨g1, a1, a2, a3⟩ := c_record (n := n) (by omega) hC hB hc
  obtain ⟨y1, ⟨σ, y2⟩, y3, y4, y5, y6⟩ := a2
  obtain ⟨k1, k2⟩ := l_clear_is (a := c + 1 + 6) (g := g1) (c := fun _ => 0)
  have hS2 := st_setQ y1 (k2.mono (by omega) (by omega)) k1
  obtain ⟨r3, g3, u1, u2, u3⟩ := c_reread (n := n) (by omega) hC hS' hS2
  have hS3 := hS2.fr u3 (by omega)
  obtain ⟨g4, d1, d2, d3⟩ := c_refresh (n := n) (by omega) hC hB' ans_0 hS3 u2 ((y6.fr k2 (by omega)).fr u3 (by omega))
  have hc4 : CInv g4 c (setQ b 0 fun _ => 0) (rec4 hb b) len T P dV := ⟨hS3.fr d3 (by omega), ⟨σ, ((y2.fr k2 (by omega)).fr u3 (by omega)).fr d3 (by omega)⟩, ((y3.fr k2 (by omega)).fr u3 (by omega)).fr d3 (by omega), ((y4.fr k2 (by omega)).fr u3 (by omega)).fr d3 (by omega), u2.fr d3 (by omega), d2⟩
  have F4 : Fr c (c + 1462) g g4 := a3.trans ((k2.mono (by omega) (by omega)).trans ((u3.mono (by omega) (by omega)).trans (d3.mono (by omega) (by omega))))
  have hm4 := hm.fr F4 (by omega)
  obtain ⟨g5, m1, m2, m3, m4, m5, m6, m7⟩ := m_rows (n := n) hn hM hB p4 hm4
  obtain ⟨g6, z1, z2, z3, z4⟩ := m_record (n := n) (by omega) hM m2
  obtain ⟨g7, o1, o2, o3⟩ := dq_l31 (n := n) (x := nI v.2.length) hM z2.1 61 84 n g6 (by omega) (by omega) (by omega) (by omega) Ch.rfl (fun j hj => by rw [if_neg (by omega)]; exact z2.1 j hj)
  obtain ⟨i1, i2, i3⟩ := m_state z2 z3 o3 o2 dV
  refine agree_of (r := nI v.2.length) hd (b := setQ b 0 fun _ => 0) (hb := rec4 hb b) ⟨hS', fun x hx => ?_, p3, ans_0, p5⟩ ?_ hc4 ?_ i1 (m7.trans (z4.trans i3))
  · rcases rec4_mem hx with z | z
    · exact p2 x z
    · rw [z]; exact ⟨hB, hv0⟩
  · rw [hC2, if_neg hne, c_rows hC hc.2.2.2.2.2, bnd_s, a1, bnd_s, l_clear hC.st.2, bnd_s, u1, bnd_s, d1, bnd_s]
  · rw [hM2 _ hm4, if_neg hne, m1, bnd_s, z1, bnd_s, m3]
    exact o1
theorem a_undo (hn : 500 ≤ n) (hC : CZ Z c) (hM : MZ Z m) (hd : c + 1462 ≤ m) (h : LInv c m g) : Agree c m (f_X10_undo n Z c) (f_X11_undo n Z m) g := by
  obtain ⟨b, hb, len, T, P, v, hP, hc, hm⟩ := h
  obtain ⟨p1, p2, p3, p4, p5⟩ := id hP
  obtain ⟨y1, ⟨σ, y2⟩, y3, y4, y5, y6⟩ := id hc
  have hl4 := y2.2.1
  have hk := hm.2.1.1
  by_cases q0 : hb.length = 0
  · refine agree_same (r := -6) hd hP hc hm ?_ ?_
    · unfold f_X10_undo; rw [grd_t hC.k, hC.f2, drf_s, h_none hC.hi y2 q0, bnd_s, if_pos rfl]
    · unfold f_X11_undo; rw [grd_t hM.k, hk, q0, if_pos (show nI 0 = (0 : Int32) from rfl)]
  obtain ⟨a1, a2, a3, a4⟩ := h_take (n := n) hC.hi y2 (by omega)
  obtain ⟨b', hb'⟩ : ∃ b', b' = hb.getD (hb.length - 1) b0 := ⟨_, rfl⟩
  rw [← hb'] at a3
  have hmem : b' ∈ hb := by rw [hb']; exact getD_mem (by omega)
  have hS' := p2 b' hmem
  obtain ⟨v', hv'⟩ := hS'.2
  have hσ := (y2.2.2.1 (hb.length - 1) (by omega)).2
  obtain ⟨g1, e1⟩ : ∃ g1, g1 = sI g (c + 17) 1 (nI (hb.length - 1)) := ⟨_, rfl⟩
  rw [← e1] at a1 a2 a3 a4
  obtain ⟨g2, s1, s2, s3⟩ := s_copy (n := n) (by omega) hC.st (hC.hi.2 _ hσ) hS'.1 (by omega) a3
  obtain ⟨r3, g3, u1, u2, u3⟩ := c_reread (n := n) (by omega) hC hS' s2
  have hS3 := s2.fr u3 (by omega)
  obtain ⟨g4, d1, d2, d3⟩ := c_refresh (n := n) (by omega) hC hS'.1 hv' hS3 u2 (((y6.fr a4 (by omega)).fr s3 (by omega)).fr u3 (by omega))
  have hH4 := ((a2.fr s3 (by omega)).fr u3 (by omega)).fr d3 (by omega)
  have hc4 : CInv g4 c b' (hb.take (hb.length - 1)) len T P v' := ⟨hS3.fr d3 (by omega), ⟨σ, hH4⟩, (((y3.fr a4 (by omega)).fr s3 (by omega)).fr u3 (by omega)).fr d3 (by omega), (((y4.fr a4 (by omega)).fr s3 (by omega)).fr u3 (by omega)).fr d3 (by omega), u2.fr d3 (by omega), d2⟩
  have F4 : Fr c (c + 1462) g g4 := (a4.mono (by omega) (by omega)).trans ((s3.mono (by omega) (by omega)).trans ((u3.mono (by omega) (by omega)).trans (d3.mono (by omega) (by omega))))
  have hm4 := hm.fr F4 (by omega)
  obtain ⟨w1, w2, w3, w4, w5⟩ := hm4
  have htl : (hb.take (hb.length - 1)).length = hb.length - 1 := by rw [List.length_take]; omega
  obtain ⟨g5, e5⟩ : ∃ g5, g5 = sI g4 m 2 (nI (hb.length - 1)) := ⟨_, rfl⟩
  have C5 : Ch (fun b j => b = m ∧ j = 2) g4 g5 := by rw [e5]; exact Ch.rfl.sI ⟨rfl, rfl⟩
  have h25 : gI g5 m 2 = nI (hb.length - 1) := by rw [e5, gI_sI, if_pos ⟨rfl, rfl⟩]
  obtain ⟨g6, o1, o2, o3, o4⟩ := und_l22 (n := n) (L := hb.length - 1) (c := b') (g0 := g5) hM (by omega) (fun j hj => by rw [C5.i (by omega), hb']; exact w2.2.2 _ (by omega) j hj) h25 145 0 n g5 (by omega) (by omega) (by omega) Ch.rfl (fun j hj => absurd hj (Nat.not_lt_zero _))
  have C6 : Ch (fun b j => (b = m ∧ (j = 2 ∨ j = 26)) ∨ b = m + 1) g4 g6 := (C5.mono fun b j q => by omega).trans (o4.mono fun b j q => by omega)
  refine agree_of (r := nI (hb.length - 1)) hd (b := b') (hb := hb.take (hb.length - 1)) ⟨hS', fun x hx => p2 x (List.mem_of_mem_take hx), p3, hv', p5⟩ ?_ hc4 ?_ (g2 := g6) ⟨o2, ⟨?_, by omega, fun i hi j hj => ?_⟩, ⟨(C6.i (by omega)).trans w3.1, fun j hj => (C6.i (by omega)).trans (w3.2 j hj)⟩, ⟨(C6.i (by omega)).trans w4.1, fun j hj => (C6.i (by omega)).trans (w4.2 j hj)⟩, Or.inl o3⟩ (C6.fr fun b j q => by omega)
  · unfold f_X10_undo
    simp only [grd_t hC.k, hC.f0, hC.f2, hC.f6, drf_s, a1, bnd_s, if_neg (show ¬ (some (c + 17 + 2 + 8 * σ (hb.length - 1)) : Option Nat) = none by simp), s1, s_line hC.st, u1, d1, h_size hC.hi hH4, htl]
  · unfold f_X11_undo
    rw [grd_t hM.k, w2.1, if_neg (show ¬ nI hb.length = (0 : Int32) from neI (b := 0) (by omega) (by omega) q0), show nI hb.length - (1 : Int32) = nI (hb.length - 1) from subN (b := 1) (by omega), ← e5]
    exact o1
  · rw [htl, o4.i (by omega), h25]
  · rw [htl] at hi
    have e : (hb.take (hb.length - 1)).getD i b0 = hb.getD i b0 := by
      simp only [List.getD, List.getElem?_take, if_pos hi]
    rw [e, C6.i (by omega)]
    exact w2.2.2 i (by omega) j hj
end UNDO

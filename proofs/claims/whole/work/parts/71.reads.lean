/-! READS OF THE STATE, THE TEXT -/
section READS
variable {n : Nat} {Z : Zt} {c m : Nat} {g : Mem}
theorem a_columns (hC : CZ Z c) (hM : MZ Z m) (hd : c + 1462 ≤ m) (x1 : Int32) (h : LInv c m g) : Agree c m (f_X10_columns n Z c x1) (f_X11_columns n Z m x1) g := by
  obtain ⟨b, hb, len, T, P, v, hP, hc, hm⟩ := h
  rcases pk_ix x1 (n := 4) (by omega) with q | q | ⟨t, ht, rfl⟩
  · refine agree_same (r := -1) hd hP hc hm ?_ ?_
    · unfold f_X10_columns; rw [grd_t hC.k, s_isTO (Or.inl q), bnd_s, if_pos rfl]
    · unfold f_X11_columns; rw [grd_t hM.k, m_isTO (Or.inl q), bnd_s, if_pos rfl]
  · refine agree_same (r := -1) hd hP hc hm ?_ ?_
    · unfold f_X10_columns; rw [grd_t hC.k, s_isTO (Or.inr q), bnd_s, if_pos rfl]
    · unfold f_X11_columns; rw [grd_t hM.k, m_isTO (Or.inr q), bnd_s, if_pos rfl]
  · refine agree_same (r := nI (b t)) hd hP hc hm ?_ ?_
    · unfold f_X10_columns; rw [grd_t hC.k, s_isT ht, bnd_s, if_neg i10, hC.f0, drf_s, s_width hC.st hc.1 ht, bnd_s]
    · unfold f_X11_columns
      rw [grd_t hM.k, m_isT ht, bnd_s, if_neg i10]
      simp (disch := omega) only [hM.f0, hM.k0, hM.l0, drf_s, grd_t, grd_true, inr_eq, clamp, hm.1 t (by omega)]
theorem a_tags (hn : 500 ≤ n) (hC : CZ Z c) (hM : MZ Z m) (hd : c + 1462 ≤ m) (h : LInv c m g) : Agree c m (f_X10_tags n Z c) (f_X11_tags n Z m) g := by
  obtain ⟨b, hb, len, T, P, v, hP, hc, hm⟩ := h
  refine agree_same (r := nI (mk (tagB b) 16)) hd hP hc hm ?_ ?_
  · unfold f_X10_tags; rw [grd_t hC.k, hC.f0, drf_s, s_mask hC.st, bnd_s, hc.1.m6]
  · unfold f_X11_tags; rw [grd_t hM.k, m_mask0 (by omega) hP.1.1 hM hm.1, bnd_s]
theorem a_withdrawn (hn : 500 ≤ n) (hC : CZ Z c) (hM : MZ Z m) (hd : c + 1462 ≤ m) (h : LInv c m g) : Agree c m (f_X10_withdrawn n Z c) (f_X11_withdrawn n Z m) g := by
  obtain ⟨b, hb, len, T, P, v, hP, hc, hm⟩ := h
  refine agree_same (r := nI (mk (goneB b) 16)) hd hP hc hm ?_ ?_
  · unfold f_X10_withdrawn; rw [grd_t hC.k, hC.f0, drf_s, s_gone hC.st, bnd_s, hc.1.m7]
  · unfold f_X11_withdrawn; rw [grd_t hM.k, m_mask1 (by omega) hP.1.1 hM hm.1, bnd_s]
/-- a tag: none has it, or a row -/
theorem tag_cases {b : Nat → Nat} (hB : BOk b) (hC : CZ Z c) (hM : MZ Z m) (hc : StIs g (c + 1) b) (hm : BIs g m b) (x : Int32) : (f_X8_hasTag n Z (c + 1) x g = some (0, g) ∧ f_X11_isTag n Z m x g = some (0, g)) ∨ ∃ t, t < 16 ∧ x = nI t ∧ b (4 + 5 * t) ≠ 0 ∧ f_X8_hasTag n Z (c + 1) x g = some (1, g) ∧ f_X11_isTag n Z m x g = some (1, g) := by
  rcases pk_ix x (n := 16) (by omega) with q | q | ⟨t, ht, rfl⟩
  · exact Or.inl ⟨s_has_out hC.st (Or.inl q), m_isTagO hM (Or.inl q)⟩
  · exact Or.inl ⟨s_has_out hC.st (Or.inr q), m_isTagO hM (Or.inr q)⟩
  · by_cases q0 : b (4 + 5 * t) = 0
    · exact Or.inl ⟨by rw [s_has hC.st hc ht, if_pos q0], by rw [m_isTag hB hM hm ht, if_pos q0]⟩
    · exact Or.inr ⟨t, ht, rfl, q0, by rw [s_has hC.st hc ht, if_neg q0], by rw [m_isTag hB hM hm ht, if_neg q0]⟩
theorem a_tableOf (hC : CZ Z c) (hM : MZ Z m) (hd : c + 1462 ≤ m) (x1 : Int32) (h : LInv c m g) : Agree c m (f_X10_tableOf n Z c x1) (f_X11_tableOf n Z m x1) g := by
  obtain ⟨b, hb, len, T, P, v, hP, hc, hm⟩ := h
  rcases tag_cases (n := n) hP.1.1 hC hM hc.1 hm.1 x1 with ⟨q1, q2⟩ | ⟨t, ht, rfl, q0, q1, q2⟩
  · refine agree_same (r := -1) hd hP hc hm ?_ ?_
    · unfold f_X10_tableOf; rw [grd_t hC.k, hC.f0, drf_s, q1, bnd_s, if_pos rfl]
    · unfold f_X11_tableOf; rw [grd_t hM.k, q2, bnd_s, if_pos rfl]
  · refine agree_same (r := nI (b (4 + 5 * t) - 1)) hd hP hc hm ?_ ?_
    · unfold f_X10_tableOf; rw [grd_t hC.k, hC.f0, drf_s, q1, bnd_s, if_neg i10, drf_s, s_table hC.st hc.1 ht, bnd_s, if_neg q0]
    · unfold f_X11_tableOf; rw [grd_t hM.k, q2, bnd_s, if_neg i10, of_0 hM hm.1 ht, bnd_s, show nI (b (4 + 5 * t)) - (1 : Int32) = nI (b (4 + 5 * t) - 1) from subN (b := 1) (by omega)]
theorem a_cost (hC : CZ Z c) (hM : MZ Z m) (hd : c + 1462 ≤ m) (x1 : Int32) (h : LInv c m g) : Agree c m (f_X10_cost n Z c x1) (f_X11_cost n Z m x1) g := by
  obtain ⟨b, hb, len, T, P, v, hP, hc, hm⟩ := h
  rcases tag_cases (n := n) hP.1.1 hC hM hc.1 hm.1 x1 with ⟨q1, q2⟩ | ⟨t, ht, rfl, q0, q1, q2⟩
  · refine agree_same (r := -1) hd hP hc hm ?_ ?_
    · unfold f_X10_cost; rw [grd_t hC.k, hC.f0, drf_s, q1, bnd_s, if_pos rfl]
    · unfold f_X11_cost; rw [grd_t hM.k, q2, bnd_s, if_pos rfl]
  · refine agree_same (r := nI (b (6 + 5 * t))) hd hP hc hm ?_ ?_
    · unfold f_X10_cost; rw [grd_t hC.k, hC.f0, drf_s, q1, bnd_s, if_neg i10, drf_s, s_cost hC.st hc.1 ht, bnd_s, if_neg q0]
    · unfold f_X11_cost; rw [grd_t hM.k, q2, bnd_s, if_neg i10, of_2 hM hm.1 ht, bnd_s]
theorem a_trust (hC : CZ Z c) (hM : MZ Z m) (hd : c + 1462 ≤ m) (x1 : Int32) (h : LInv c m g) : Agree c m (f_X10_trust n Z c x1) (f_X11_trust n Z m x1) g := by
  obtain ⟨b, hb, len, T, P, v, hP, hc, hm⟩ := h
  rcases tag_cases (n := n) hP.1.1 hC hM hc.1 hm.1 x1 with ⟨q1, q2⟩ | ⟨t, ht, rfl, q0, q1, q2⟩
  · refine agree_same (r := -1) hd hP hc hm ?_ ?_
    · unfold f_X10_trust; rw [grd_t hC.k, hC.f0, drf_s, q1, bnd_s, if_pos rfl]
    · unfold f_X11_trust; rw [grd_t hM.k, q2, bnd_s, if_pos rfl]
  · refine agree_same (r := nI (b (7 + 5 * t))) hd hP hc hm ?_ ?_
    · unfold f_X10_trust; rw [grd_t hC.k, hC.f0, drf_s, q1, bnd_s, if_neg i10, drf_s, s_trust hC.st hc.1 ht, bnd_s, if_neg q0]
    · unfold f_X11_trust; rw [grd_t hM.k, q2, bnd_s, if_neg i10, of_3 hM hm.1 ht, bnd_s]
/-- whether a number is a column, or a place -/
theorem in_pred {k : Nat} (h0 : 0 < k) (hk : k < 2147483647) (x : Int32) : (x < 0 ∨ nI k ≤ x) ∧ (∀ g, f_X11_in n Z x 0 (nI k - 1) g = some (0, g)) ∨ ∃ j, j < k ∧ x = nI j ∧ ∀ g, f_X11_in n Z x 0 (nI k - 1) g = some (1, g) := by
  have e : nI k - (1 : Int32) = nI (k - 1) := subN (b := 1) (by omega)
  rw [e]
  rcases pk_ix x (n := k) (by omega) with q | q | ⟨j, hj, rfl⟩
  · exact Or.inl ⟨Or.inl q, fun g => m_inO (by omega) (Or.inl q)⟩
  · exact Or.inl ⟨Or.inr q, fun g => m_inO (by omega) (Or.inr (by rw [show k - 1 + 1 = k by omega]; exact q))⟩
  · exact Or.inr ⟨j, hj, rfl, fun g => by rw [in_0 (by omega) (by omega), if_pos (by omega)]⟩
/-- .. where there is none -/
theorem in_pred0 (x : Int32) : ∀ g, f_X11_in n Z x 0 (nI 0 - 1) g = some (0, g) := fun g => by
  rw [m_in]
  by_cases q : x < 0
  · rw [if_pos (Or.inl q)]
  · obtain ⟨j, j1, rfl⟩ := nI_of q
    rw [if_pos (Or.inr ?_)]
    rw [Int32.lt_iff_toInt_lt, nI_toInt j1, show (nI 0 - 1).toInt = -1 by decide]
    omega
theorem a_value (hn : 500 ≤ n) (hC : CZ Z c) (hM : MZ Z m) (hd : c + 1462 ≤ m) (x1 x2 : Int32) (h : LInv c m g) : Agree c m (f_X10_value n Z c x1 x2) (f_X11_value n Z m x1 x2) g := by
  obtain ⟨b, hb, len, T, P, v, hP, hc, hm⟩ := h
  rcases tag_cases (n := n) hP.1.1 hC hM hc.1 hm.1 x1 with ⟨q1, q2⟩ | ⟨t, ht, rfl, q0, q1, q2⟩
  · refine agree_same (r := -1) hd hP hc hm ?_ ?_
    · unfold f_X10_value; rw [grd_t hC.k, hC.f0, drf_s, q1, bnd_s, if_pos rfl]
    · unfold f_X11_value; rw [grd_t hM.k, q2, bnd_s, if_pos rfl]
  · obtain ⟨r1, r2, r3, r4, r5, r6⟩ := hP.1.1.2.1 t ht
    have htab : b (4 + 5 * t) - 1 < 4 := by omega
    obtain ⟨w1, w2⟩ := hP.1.1.1 _ htab
    have hv := r5 q0
    have hp : 10 ^ b (b (4 + 5 * t) - 1) ≤ 10 ^ 3 := Nat.pow_le_pow_right (by omega) w2
    have e1 : nI (b (4 + 5 * t)) - (1 : Int32) = nI (b (4 + 5 * t) - 1) := subN (b := 1) (by omega)
    have hw := hm.1 (b (4 + 5 * t) - 1) (by omega)
    have hM2 : f_X11_value n Z m (nI t) x2 g = bnd (f_X11_in n Z x2 (0 : Int32) (nI (b (b (4 + 5 * t) - 1)) - (1 : Int32)) g) (fun r12 g13 => if r12 = 0 then (some ((-1 : Int32), g13)) else (bnd (f_X11_of n Z m (nI t) (1 : Int32) g13) (fun r16 g17 => bnd (f_X11_digit n Z r16 (nI (b (b (4 + 5 * t) - 1))) x2 g17) (fun r19 g20 => some (r19, g20))))) := by
      unfold f_X11_value
      rw [grd_t hM.k, q2, bnd_s, if_neg i10, hM.f0, drf_s, of_0 hM hm.1 ht, bnd_s, e1]
      simp (disch := omega) only [hM.k0, hM.l0, grd_t, grd_true, inr_eq, clamp, hw]
    have hC2 : f_X10_value n Z c (nI t) x2 g = if x2 < 0 then (some ((-1 : Int32), g)) else (if x2 < nI (b (b (4 + 5 * t) - 1)) then (bnd (f_X2_digit n Z (nI (pk (b (5 + 5 * t)))) (nI (b (b (4 + 5 * t) - 1))) x2 g) (fun r24 g25 => some (r24, g25))) else (some ((-1 : Int32), g))) := by
      unfold f_X10_value
      rw [grd_t hC.k, hC.f0, drf_s, q1, bnd_s, if_neg i10, drf_s, drf_s, s_table hC.st hc.1 ht, bnd_s, if_neg q0, s_width hC.st hc.1 htab, bnd_s, drf_s, s_key hC.st hc.1 ht q0, bnd_s]
    rcases in_pred (n := n) (Z := Z) (k := b (b (4 + 5 * t) - 1)) (by omega) (by omega) x2 with ⟨z1, z2⟩ | ⟨j, hj, rfl, z2⟩
    · refine agree_same (r := -1) hd hP hc hm ?_ ?_
      · rw [hC2]
        by_cases z : x2 < 0
        · rw [if_pos z]
        · rw [if_neg z, if_neg (Int32.not_lt.mpr (z1.resolve_left z))]
      · rw [hM2, z2, bnd_s, if_pos rfl]
    · refine agree_same (r := nI (dg (b (b (4 + 5 * t) - 1)) (b (5 + 5 * t)) j)) hd hP hc hm ?_ ?_
      · rw [hC2, if_neg (fun q => by rw [not_neg (by omega)] at q; exact q), if_pos ((nlt (by omega) (by omega)).mpr hj), key_digit (by omega) hj, bnd_s]
      · rw [hM2, z2, bnd_s, if_neg i10, of_1 hM hm.1 ht, bnd_s, m_digit (by omega) (by omega) (by omega) hj, bnd_s]
theorem a_queryLength (hC : CZ Z c) (hM : MZ Z m) (hd : c + 1462 ≤ m) (h : LInv c m g) : Agree c m (f_X10_queryLength n Z c) (f_X11_queryLength n Z m) g := by
  obtain ⟨b, hb, len, T, P, v, hP, hc, hm⟩ := h
  refine agree_same (r := nI (b 84)) hd hP hc hm ?_ ?_
  · unfold f_X10_queryLength; rw [grd_t hC.k, hC.f0, drf_s, s_line hC.st, bnd_s, drf_s, l_len hC.st.2, bnd_s, hc.1.2.2.2.2.1]
  · unfold f_X11_queryLength
    rw [grd_t hM.k, hM.f0, drf_s, grd_t hM.k0, hM.l0, grd_t (show inr (84 : Int32) 145 by decide), show (84 : Int32).toNatClampNeg = 84 by decide, hm.1 84 (by omega)]
theorem a_queryAt (hC : CZ Z c) (hM : MZ Z m) (hd : c + 1462 ≤ m) (x1 : Int32) (h : LInv c m g) : Agree c m (f_X10_queryAt n Z c x1) (f_X11_queryAt n Z m x1) g := by
  obtain ⟨b, hb, len, T, P, v, hP, hc, hm⟩ := h
  have h60 := hP.1.1.2.2.1
  have hl := hc.1.2.2.2.2
  have hC2 : f_X10_queryAt n Z c x1 g = bnd (f_X3_codeAt n Z (c + 1 + 6) x1 g) (fun r8 g9 => some (r8, g9)) := by
    unfold f_X10_queryAt; rw [grd_t hC.k, hC.f0, drf_s, s_line hC.st, bnd_s, drf_s]
  have hM2 : f_X11_queryAt n Z m x1 g = bnd (f_X11_in n Z x1 (0 : Int32) (nI (b 84) - (1 : Int32)) g) (fun r5 g6 => if r5 = 0 then (some ((-1 : Int32), g6)) else (drf (zf Z m 0) (fun b9 => grd (zk Z b9 = 12) (grd (inr ((85 : Int32) + x1) (zl Z b9)) (some ((gI g6 b9 ((85 : Int32) + x1).toNatClampNeg), g6)))))) := by
    unfold f_X11_queryAt
    rw [grd_t hM.k, hM.f0, drf_s, grd_t hM.k0, hM.l0, grd_t (show inr (84 : Int32) 145 by decide), show (84 : Int32).toNatClampNeg = 84 by decide, hm.1 84 (by omega)]
  by_cases z0 : b 84 = 0
  · refine agree_same (r := -1) hd hP hc hm ?_ ?_
    · rw [hC2, l_code_out hC.st.2 hl, bnd_s]
      rw [z0]
      by_cases q : x1 < 0
      · exact Or.inl q
      · exact Or.inr (Int32.not_lt.mp q)
    · rw [hM2, z0, in_pred0, bnd_s, if_pos rfl]
  rcases in_pred (n := n) (Z := Z) (k := b 84) (by omega) (by omega) x1 with ⟨z1, z2⟩ | ⟨j, hj, rfl, z2⟩
  · refine agree_same (r := -1) hd hP hc hm ?_ ?_
    · rw [hC2, l_code_out hC.st.2 hl z1, bnd_s]
    · rw [hM2, z2, bnd_s, if_pos rfl]
  · refine agree_same (r := nI (b (85 + j))) hd hP hc hm ?_ ?_
    · rw [hC2, l_code hC.st.2 (by omega) (by omega) hl hj, bnd_s]
    · rw [hM2, z2, bnd_s, if_neg i10, show (85 : Int32) + nI j = nI (85 + j) from nI_add 85 j]
      simp (disch := omega) only [hM.f0, drf_s, hM.k0, hM.l0, grd_t, grd_true, inr_eq, clamp, hm.1 (85 + j) (by omega)]
theorem a_printed (hC : CZ Z c) (hM : MZ Z m) (hd : c + 1462 ≤ m) (x1 : Int32) (h : LInv c m g) : Agree c m (f_X10_printed n Z c x1) (f_X11_printed n Z m x1) g := by
  obtain ⟨b, hb, len, T, P, v, hP, hc, hm⟩ := h
  have h1024 := hP.2.2.2.2
  have hl := hc.2.2.2.1
  have hp := hm.2.2.2.1
  have hC2 : f_X10_printed n Z c x1 g = bnd (f_X3_codeAt n Z (c + 53) x1 g) (fun r8 g9 => some (r8, g9)) := by
    unfold f_X10_printed; rw [grd_t hC.k, hC.f4, drf_s]
  have hM2 : f_X11_printed n Z m x1 g = bnd (f_X11_in n Z x1 (0 : Int32) (nI P.length - (1 : Int32)) g) (fun r5 g6 => if r5 = 0 then (some ((-1 : Int32), g6)) else (drf (zf Z m 30) (fun b9 => grd (zk Z b9 = 12) (grd (inr x1 (zl Z b9)) (some ((gI g6 b9 x1.toNatClampNeg), g6)))))) := by
    unfold f_X11_printed
    rw [grd_t hM.k, hp.1]
  by_cases z0 : P.length = 0
  · refine agree_same (r := -1) hd hP hc hm ?_ ?_
    · rw [hC2, l_code_out hC.pa hl, bnd_s]
      rw [z0]
      by_cases q : x1 < 0
      · exact Or.inl q
      · exact Or.inr (Int32.not_lt.mp q)
    · rw [hM2, z0, in_pred0, bnd_s, if_pos rfl]
  rcases in_pred (n := n) (Z := Z) (k := P.length) (by omega) (by omega) x1 with ⟨z1, z2⟩ | ⟨j, hj, rfl, z2⟩
  · refine agree_same (r := -1) hd hP hc hm ?_ ?_
    · rw [hC2, l_code_out hC.pa hl z1, bnd_s]
    · rw [hM2, z2, bnd_s, if_pos rfl]
  · refine agree_same (r := nI (P.getD j 0)) hd hP hc hm ?_ ?_
    · rw [hC2, l_code hC.pa (by omega) (by omega) hl hj, bnd_s]
    · rw [hM2, z2, bnd_s, if_neg i10]
      simp (disch := omega) only [hM.f30, drf_s, hM.k30, hM.l30, grd_t, grd_true, inr_eq, clamp, hp.2 j hj]
/-! the text -/
theorem a_append (hC : CZ Z c) (hM : MZ Z m) (hd : c + 1462 ≤ m) (x1 : Int32) (h : LInv c m g) : Agree c m (f_X10_append n Z c x1) (f_X11_append n Z m x1) g := by
  obtain ⟨b, hb, len, T, P, v, hP, hc, hm⟩ := h
  obtain ⟨p1, p2, p3, p4, p5⟩ := id hP
  have h60 := p3.1
  have hin : ∀ g : Mem, f_X11_in n Z x1 (32 : Int32) (126 : Int32) g = some (if x1 < 32 ∨ 126 < x1 then 0 else 1, g) := fun g => m_in
  by_cases q1 : x1 < 32
  · refine agree_same (r := -2) hd hP hc hm ?_ ?_
    · unfold f_X10_append; rw [grd_t hC.k, if_pos q1]
    · unfold f_X11_append; rw [grd_t hM.k, hin, bnd_s, if_pos (Or.inl q1), if_pos rfl]
  by_cases q2 : x1 ≤ 126
  case neg =>
    refine agree_same (r := -2) hd hP hc hm ?_ ?_
    · unfold f_X10_append; rw [grd_t hC.k, if_neg q1, if_neg q2]
    · unfold f_X11_append; rw [grd_t hM.k, hin, bnd_s, if_pos (Or.inr (Int32.not_le.mp q2)), if_pos rfl]
  have q3 : ¬ (x1 < 32 ∨ 126 < x1) := fun z => Or.elim z q1 fun z => absurd q2 (Int32.not_le.mpr z)
  obtain ⟨w, hw, rfl⟩ := nI_of2 (M := 126) (n := 126) (by decide) (fun z => q1 (Int32.lt_trans z (by decide))) q2
  have hw1 : 32 ≤ w := by
    have : ¬ nI w < nI 32 := q1
    exact Nat.le_of_not_lt fun z => this ((nlt (by omega) (by omega)).mpr z)
  have h4 := hm.2.2.1.1
  by_cases hl : len = 60
  · subst hl
    refine agree_same (r := -4) hd hP hc hm ?_ ?_
    · unfold f_X10_append; rw [grd_t hC.k, if_neg q1, if_pos q2, hC.f3, drf_s, l_full hC.tx (by omega) hc.2.2.1, bnd_s, if_pos rfl]
    · unfold f_X11_append; rw [grd_t hM.k, hin, bnd_s, if_neg q3, if_neg i10, h4, if_pos (show nI 60 = (60 : Int32) from rfl)]
  · obtain ⟨g1, a1, a2, a3⟩ := l_add (n := n) (x := w) hC.tx (by omega) hc.2.2.1 (by omega) (by omega)
    obtain ⟨c1, ⟨σ, c2⟩, c3, c4, c5, c6⟩ := hc
    have hT' : TOk (fun k => if k = len then w else T k) (len + 1) := ⟨by omega, fun k hk => by
      dsimp only
      by_cases z : k = len
      · rw [if_pos z]; omega
      · rw [if_neg z]; exact p3.2.1 k (by omega), fun k hk => by
      dsimp only
      rw [if_neg (by omega)]; exact p3.2.2 k (by omega)⟩
    have hc' : CInv g1 c b hb (len + 1) (fun k => if k = len then w else T k) P v := ⟨c1.fr a3 (by omega), ⟨σ, c2.fr a3 (by omega)⟩, a2, c4.fr a3 (by omega), c5.fr a3 (by omega), c6.fr a3 (by omega)⟩
    have hm1 := hm.fr (a3.mono (lo' := c) (hi' := c + 1462) (by omega) (by omega)) (by omega)
    have k4 := hm1.2.2.1.1
    obtain ⟨g2, e2⟩ : ∃ g2, g2 = sI (sI g1 (m + 3) len (nI w)) m 4 (nI (len + 1)) := ⟨_, rfl⟩
    have F2 : Ch (fun b j => (b = m ∧ j = 4) ∨ b = m + 3) g1 g2 := by rw [e2]; exact (Ch.rfl.sI (Or.inr rfl)).sI (Or.inl ⟨rfl, rfl⟩)
    obtain ⟨d1, d2, d3, d4, d5⟩ := hm1
    refine agree_of (r := nI (len + 1)) hd (len := len + 1) (T := fun k => if k = len then w else T k) ⟨p1, p2, hT', p4, p5⟩ ?_ hc' ?_ (g2 := g2) ⟨d1.ch F2 fun j => by omega, d2.ch F2 ⟨by omega, fun j => by omega⟩, ⟨?_, fun j hj => ?_⟩, ⟨(F2.i (by omega)).trans d4.1, fun j hj => (F2.i (by omega)).trans (d4.2 j hj)⟩, ?_⟩ (F2.fr fun b j q => by omega)
    · unfold f_X10_append
      rw [grd_t hC.k, if_neg q1, if_pos q2, hC.f3, drf_s, ch16 (by omega), a1, bnd_s, if_neg i10, drf_s, l_len hC.tx, bnd_s, a2.1]
    · unfold f_X11_append
      rw [grd_t hM.k, hin, bnd_s, if_neg q3, if_neg i10, k4, if_neg (show ¬ nI len = (60 : Int32) from neI (b := 60) (by omega) (by omega) hl)]
      have e4 : gI (sI g1 (m + 3) len (nI w)) m 4 = nI len := by rw [gI_sI, if_neg (by omega)]; exact k4
      simp (disch := omega) only [hM.f3, drf_s, hM.k3, hM.l3, grd_t, grd_true, inr_eq, clamp, e4, nI_1]
      rw [gI_sI, if_pos ⟨rfl, rfl⟩, e2]
    · rw [e2, gI_sI, if_pos ⟨rfl, rfl⟩]
    · rw [e2, gI_sI, if_neg (by omega), gI_sI]
      dsimp only
      by_cases z : j = len
      · rw [if_pos ⟨rfl, z⟩, if_pos z]
      · rw [if_neg (fun y => z y.2), if_neg z]; exact d3.2 j (by omega)
    · rcases d5 with z | ⟨z, y⟩
      · exact Or.inl ((F2.i (by omega)).trans z)
      · exact Or.inr ⟨(F2.i (by omega)).trans z, y.ch F2 fun b j q r => by unfold pQ at q; omega⟩
theorem a_clearText (hC : CZ Z c) (hM : MZ Z m) (hd : c + 1462 ≤ m) (h : LInv c m g) : Agree c m (f_X10_clearText n Z c) (f_X11_clearText n Z m) g := by
  obtain ⟨b, hb, len, T, P, v, hP, hc, hm⟩ := h
  obtain ⟨p1, p2, p3, p4, p5⟩ := id hP
  obtain ⟨a2, a3⟩ := l_clear_is (a := c + 51) (g := g) (c := fun _ => 0)
  obtain ⟨c1, ⟨σ, c2⟩, c3, c4, c5, c6⟩ := hc
  have hc' : CInv (sI g (c + 51) 1 0) c b hb 0 (fun _ => 0) P v := ⟨c1.fr a3 (by omega), ⟨σ, c2.fr a3 (by omega)⟩, a2, c4.fr a3 (by omega), c5.fr a3 (by omega), c6.fr a3 (by omega)⟩
  have hm1 := hm.fr (a3.mono (lo' := c) (hi' := c + 1462) (by omega) (by omega)) (by omega)
  obtain ⟨d1, d2, d3, d4, d5⟩ := hm1
  have F2 : Ch (fun b j => b = m ∧ j = 4) (sI g (c + 51) 1 0) (sI (sI g (c + 51) 1 0) m 4 0) := Ch.rfl.sI ⟨rfl, rfl⟩
  refine agree_of (r := nI len) hd (len := 0) (T := fun _ => 0) ⟨p1, p2, t0_ok, p4, p5⟩ ?_ hc' ?_ ⟨d1.ch F2 fun j => by omega, d2.ch F2 ⟨by omega, fun j => by omega⟩, ⟨by rw [gI_sI, if_pos ⟨rfl, rfl⟩]; rfl, fun j hj => absurd hj (Nat.not_lt_zero _)⟩, ⟨(F2.i (by omega)).trans d4.1, fun j hj => (F2.i (by omega)).trans (d4.2 j hj)⟩, ?_⟩ (F2.fr fun b j q => by omega)
  · unfold f_X10_clearText
    rw [grd_t hC.k, hC.f3, drf_s, l_len hC.tx, bnd_s, drf_s, l_clear hC.tx, bnd_s, c3.1]
  · unfold f_X11_clearText
    rw [grd_t hM.k, d3.1]
  · rcases d5 with z | ⟨z, y⟩
    · exact Or.inl ((F2.i (by omega)).trans z)
    · exact Or.inr ⟨(F2.i (by omega)).trans z, y.ch F2 fun b j q r => by unfold pQ at q; omega⟩
theorem a_fault (hn : 500 ≤ n) (hC : CZ Z c) (hM : MZ Z m) (hd : c + 1462 ≤ m) (h : LInv c m g) : Agree c m (f_X10_fault n Z c) (f_X11_fault n Z m) g := by
  obtain ⟨b, hb, len, T, P, v, hP, hc, hm⟩ := h
  obtain ⟨p1, p2, p3, p4, p5⟩ := id hP
  obtain ⟨g1, a1, a2, a3⟩ := c_read (n := n) (by omega) hC.dr hC.tx p3 (by omega) hc.2.2.1
  have hc' : CInv g1 c b hb len T P v := by
    obtain ⟨c1, ⟨σ, c2⟩, c3, c4, c5, c6⟩ := hc
    exact ⟨c1.fr a1 (by omega), ⟨σ, c2.fr a1 (by omega)⟩, c3.fr a1 (by omega), c4.fr a1 (by omega), c5.fr a1 (by omega), c6.fr a1 (by omega)⟩
  have hm1 := hm.fr (a1.mono (lo' := c) (hi' := c + 1462) (by omega) (by omega)) (by omega)
  obtain ⟨g2, b1, b2, b3⟩ := m_takesText (n := n) (by omega) hM p3.1 hm1.2.2.1.1 hm1.2.2.1.2
  have S1 : SrcIs (sI g2 m 26 0) m len T := ⟨by rw [gI_sI, if_neg (by omega)]; exact b2.1, fun k hk => by rw [gI_sI, if_neg (by omega)]; exact b2.2 k hk⟩
  have F2 : Ch (pL m) g1 (sI g2 m 26 0) := (b3.mono fun b j q => by unfold pL; omega).sI (by unfold pL; omega)
  obtain ⟨g3, d1, d2, d3⟩ := m_reads (n := n) (by omega) hM p3 S1
  have F3 : Ch (pL m) g1 g3 := F2.trans (d1.mono fun b j q => pP_L q)
  have k26 : gI g3 m 26 = 0 := by rw [d1.i (by unfold pP; omega), gI_sI, if_pos ⟨rfl, rfl⟩]
  have hm3 := hm1.work F3 (v' := v) (Or.inl k26)
  have hM2 : f_X11_fault n Z m g1 = bnd (f_X11_reads n Z m (sI g2 m 26 0)) (fun r4 g5 => if r4 = 0 then (some ((gI g5 m 7), g5)) else (some ((-6 : Int32), g5))) := by
    unfold f_X11_fault; rw [grd_t hM.k, b1, bnd_s]
  have hC2 : f_X10_fault n Z c g = bnd (f_X6_read n Z (c + 55) (c + 51) g) (fun r5 g6 => if r5 = 0 then (some (gI g6 (c + 55) 7, g6)) else (some ((-6 : Int32), g6))) := by
    unfold f_X10_fault f_X6_stoppedAt; rw [grd_t hC.k, hC.f5, drf_s, hC.f3, drf_s]; simp only [grd_t hC.dr.k, bnd_s, drf_s]
  have FF : Fr m (m + 21) g1 g3 := F3.fr fun b j q => by unfold pL at q; omega
  cases hr : (prunT T).2 with
  | none =>
    rw [hr] at a3 d3
    refine agree_of (r := nI (prunT T).1) hd hP ?_ hc' ?_ hm3 FF
    · rw [hC2, a3.1, bnd_s, if_pos rfl, a2]
    · rw [hM2, d3, bnd_s, if_pos rfl, d2]
  | some x =>
    rw [hr] at a3 d3
    by_cases hl : (prunT T).1 = len
    · dsimp only at a3 d3
      rw [if_pos hl] at a3 d3
      refine agree_of (r := -6) hd hP ?_ hc' ?_ hm3 FF
      · rw [hC2, a3.2.1, bnd_s, if_neg i10]
      · rw [hM2, d3.2, bnd_s, if_neg i10]
    · dsimp only at a3 d3
      rw [if_neg hl] at a3 d3
      refine agree_of (r := nI (prunT T).1) hd hP ?_ hc' ?_ hm3 FF
      · rw [hC2, a3.2.1, bnd_s, if_pos rfl, a2]
      · rw [hM2, d3.2, bnd_s, if_pos rfl, d2]
end READS

/-! terms, coefficient, exponent -/
section TERMS
variable {n : Nat} {Z : Zt} {c m : Nat} {g : Mem}
theorem c_isForm (x : Int32) : ((x < 0 ∨ nI 5 ≤ x) ∧ (∀ g, f_X10_isForm n Z x g = some (0, g)) ∧ ∀ g, f_X11_isForm n Z x g = some (0, g)) ∨ ∃ f, f < 5 ∧ x = nI f ∧ (∀ g, f_X10_isForm n Z x g = some (1, g)) ∧ ∀ g, f_X11_isForm n Z x g = some (1, g) := by
  rcases pk_ix x (n := 5) (by omega) with q | q | ⟨f, hf, rfl⟩
  · refine Or.inl ⟨Or.inl q, fun g => by unfold f_X10_isForm; rw [if_pos q], fun g => ?_⟩
    unfold f_X11_isForm
    rw [show f_X11_in n Z x 0 4 g = some (0, g) from m_inO (hi := 4) (by omega) (Or.inl q), bnd_s, grd_t (show isz (0 : Int32) by decide)]
  · refine Or.inl ⟨Or.inr q, fun g => ?_, fun g => ?_⟩
    · unfold f_X10_isForm
      by_cases w : x < 0
      · rw [if_pos w]
      · rw [if_neg w, if_pos (show (5 : Int32) ≤ x from q)]
    · unfold f_X11_isForm
      rw [show f_X11_in n Z x 0 4 g = some (0, g) from m_inO (hi := 4) (by omega) (Or.inr q), bnd_s, grd_t (show isz (0 : Int32) by decide)]
  · refine Or.inr ⟨f, hf, rfl, fun g => ?_, fun g => ?_⟩
    · unfold f_X10_isForm
      rw [if_neg (fun q => by rw [not_neg (by omega)] at q; exact q), if_neg (show ¬ (5 : Int32) ≤ nI f from ge_n (N := 5) (by omega) hf)]
    · have h4 : f_X11_in n Z (nI f) 0 4 g = some (1, g) := by
        have := in_0 (n := n) (Z := Z) (g := g) (x := f) (hi := 4) (by omega) (by omega)
        rw [if_pos (by omega)] at this
        exact this
      unfold f_X11_isForm
      rw [h4, bnd_s, grd_t (show isz (1 : Int32) by decide)]
theorem form_inv {len : Nat} {b : Nat → Nat} {hb : List (Nat → Nat)} {T : Nat → Nat} {P : List Nat} {v : Vl} {g3 g4 : Mem} (h4 : MInv g3 m b hb len T P v) (h5 : MR g3 m 0 v.1 v.2) (h26 : gI g3 m 26 = 1) (hF : Ch (pFm m) g3 g4) : MInv g4 m b hb len T P v ∧ Fr m (m + 21) g3 g4 :=
  ⟨h4.work (hF.mono fun b j q => pFm_L q) (Or.inr ⟨(hF.i (by unfold pFm; omega)).trans h26, h5.ch hF fun b j q z => by unfold pQ at q; unfold pFm; omega⟩), hF.fr fun b j q => by unfold pFm at q; omega⟩
theorem a_terms (hn : 500 ≤ n) (hC : CZ Z c) (hM : MZ Z m) (hd : c + 1462 ≤ m) (x1 x2 : Int32) (h : LInv c m g) : Agree c m (f_X10_terms n Z c x1 x2) (f_X11_terms n Z m x1 x2) g := by
  refine row_call (r0 := (-1 : Int32)) (x := x1) hn hC hM hd h ⟨fun q h1 h2 => ?_, fun g g' h1 => ?_⟩ fun b hb len T P v k q a hP hc hk h32 hx h1 h2 hZ hI ha1 ha2 => ?_
  · unfold f_X10_terms; rw [grd_t hC.k, hC.f7, drf_s, h1, bnd_s, drf_s, h2, bnd_s, if_pos rfl]
  · unfold f_X11_terms; rw [grd_t hM.k, h1, bnd_s, if_pos rfl]
  · rcases c_isForm (n := n) (Z := Z) x2 with ⟨_, f1, f2⟩ | ⟨f, hf, rfl, f1, f2⟩
    · refine ⟨-2, g, ?_, Fr.rfl, fun g2 g3 h3 h4 h5 h26 h6 => ⟨g3, ?_, h4, Fr.rfl⟩⟩
      · unfold f_X10_terms; rw [grd_t hC.k, hC.f7, drf_s, h1, bnd_s, drf_s, h2, bnd_s, if_neg (by simp), f1, bnd_s, if_pos rfl]
      · unfold f_X11_terms; rw [grd_t hM.k, h3, bnd_s, if_neg i10, f2, bnd_s, if_pos rfl]
    · obtain ⟨g1, e1, e2, e3⟩ := c_form (n := n) (g := g) (by omega) hC.sh hZ (by omega) hf hI
      refine ⟨nI (fin f (rowP v k)).length, g1, ?_, e3.mono (by omega) (by omega), fun g2 g3 h3 h4 h5 h26 h6 => ?_⟩
      · unfold f_X10_terms; rw [grd_t hC.k, hC.f7, drf_s, h1, bnd_s, drf_s, h2, bnd_s, if_neg (by simp), f1, bnd_s, if_neg i10, hC.f8, drf_s, drf_s, e1, bnd_s, drf_s, p_size hC.sh e2, bnd_s]
      · obtain ⟨g4, k1, k2, k3⟩ := m_form (n := n) (by omega) hM (show k < 32 by omega) hf h6
        obtain ⟨i1, i2⟩ := form_inv h4 h5 h26 k3
        refine ⟨g4, ?_, i1, i2⟩
        unfold f_X11_terms; rw [grd_t hM.k, h3, bnd_s, if_neg i10, f2, bnd_s, if_neg i10, hx, k1, bnd_s, hM.f21, drf_s, grd_t hM.k21, hM.l21, grd_t (show inr (416 : Int32) 448 by decide), show (416 : Int32).toNatClampNeg = 416 by decide, k2.1]
/-- a term of a polynomial, or none -/
theorem term_cases {s : Nat} {zs : Pol} {g4 : Mem} (hZ : PZ Z s) (h : PIs g s zs) (hMI : MIs g4 m 416 zs) (x : Int32) : (f_X5_hasTerm n Z s x g = some (0, g) ∧ f_X11_in n Z x 0 (nI zs.length - 1) g4 = some (0, g4)) ∨ ∃ j, j < zs.length ∧ x = nI j ∧ f_X5_hasTerm n Z s x g = some (1, g) ∧ f_X11_in n Z x 0 (nI zs.length - 1) g4 = some (1, g4) := by
  have h32 := h.2.1
  have hout : (x < 0 ∨ nI zs.length ≤ x) → f_X5_hasTerm n Z s x g = some (0, g) := fun q => by
    unfold f_X5_hasTerm
    rw [grd_t hZ.1]
    by_cases w : x < 0
    · rw [if_pos w]
    · rw [if_neg w, h.1, if_pos (q.resolve_left w)]
  by_cases h0 : zs.length = 0
  · refine Or.inl ⟨hout ?_, by rw [h0]; exact in_pred0 x g4⟩
    rw [h0]
    by_cases w : x < 0
    · exact Or.inl w
    · exact Or.inr (Int32.not_lt.mp w)
  · rcases in_pred (n := n) (Z := Z) (k := zs.length) (by omega) (by omega) x with ⟨z1, z2⟩ | ⟨j, hj, rfl, z2⟩
    · exact Or.inl ⟨hout z1, z2 g4⟩
    · exact Or.inr ⟨j, hj, rfl, p_has hZ h hj, z2 g4⟩
theorem a_coefficient (hn : 500 ≤ n) (hC : CZ Z c) (hM : MZ Z m) (hd : c + 1462 ≤ m) (x1 x2 x3 : Int32) (h : LInv c m g) : Agree c m (f_X10_coefficient n Z c x1 x2 x3) (f_X11_coefficient n Z m x1 x2 x3) g := by
  refine row_call (r0 := (-1 : Int64)) (x := x1) hn hC hM hd h ⟨fun q h1 h2 => ?_, fun g g' h1 => ?_⟩ fun b hb len T P v k q a hP hc hk h32 hx h1 h2 hZ hI ha1 ha2 => ?_
  · unfold f_X10_coefficient; rw [grd_t hC.k, hC.f7, drf_s, h1, bnd_s, drf_s, h2, bnd_s, if_pos rfl]
  · unfold f_X11_coefficient; rw [grd_t hM.k, h1, bnd_s, if_pos rfl]
  · rcases c_isForm (n := n) (Z := Z) x2 with ⟨_, f1, f2⟩ | ⟨f, hf, rfl, f1, f2⟩
    · refine ⟨-2, g, ?_, Fr.rfl, fun g2 g3 h3 h4 h5 h26 h6 => ⟨g3, ?_, h4, Fr.rfl⟩⟩
      · unfold f_X10_coefficient; rw [grd_t hC.k, hC.f7, drf_s, h1, bnd_s, drf_s, h2, bnd_s, if_neg (by simp), f1, bnd_s, if_pos rfl]
      · unfold f_X11_coefficient; rw [grd_t hM.k, h3, bnd_s, if_neg i10, f2, bnd_s, if_pos rfl]
    · obtain ⟨g1, e1, e2, e3⟩ := c_form (n := n) (g := g) (by omega) hC.sh hZ (by omega) hf hI
      have hl := e2.2.1
      have hCC : f_X10_coefficient n Z c x1 (nI f) x3 g = bnd (f_X5_hasTerm n Z (c + 1455) x3 g1) (fun r25 g26 => if r25 = 0 then (some ((-1 : Int64), g26)) else (bnd (f_X5_factorAt n Z (c + 1455) x3 g26) (fun r31 g32 => some (r31, g32)))) := by
        unfold f_X10_coefficient; rw [grd_t hC.k, hC.f7, drf_s, h1, bnd_s, drf_s, h2, bnd_s, if_neg (by simp), f1, bnd_s, if_neg i10, hC.f8, drf_s, drf_s, e1, bnd_s, drf_s]; rfl
      have hMM : ∀ g2 g3 g4, f_X11_isRow n Z m x1 g2 = some (1, g3) → f_X11_laysForm n Z m (nI k) (nI f) g3 = some ((), g4) → MIs g4 m 416 (fin f (rowP v k)) → f_X11_coefficient n Z m x1 (nI f) x3 g2 = bnd (f_X11_in n Z x3 (0 : Int32) (nI (fin f (rowP v k)).length - (1 : Int32)) g4) (fun r16 g17 => if r16 = 0 then (some ((-1 : Int64), g17)) else (drf (zf Z m 23) (fun b20 => grd (zk Z b20 = 13) (grd (inr ((13312 : Int32) + x3) (zl Z b20)) (some ((gJ g17 b20 ((13312 : Int32) + x3).toNatClampNeg), g17)))))) := fun g2 g3 g4 h3 k1 k2 => by
        unfold f_X11_coefficient; rw [grd_t hM.k, h3, bnd_s, if_neg i10, f2, bnd_s, if_neg i10, hx, k1, bnd_s, hM.f21, drf_s, grd_t hM.k21, hM.l21, grd_t (show inr (416 : Int32) 448 by decide), show (416 : Int32).toNatClampNeg = 416 by decide, k2.1]
      by_cases ht : ∃ j, j < (fin f (rowP v k)).length ∧ x3 = nI j
      · obtain ⟨j, hj, rfl⟩ := ht
        refine ⟨((fin f (rowP v k)).getD j (0, 0)).2, g1, ?_, e3.mono (by omega) (by omega), fun g2 g3 h3 h4 h5 h26 h6 => ?_⟩
        · rw [hCC, p_has hC.sh e2 hj, bnd_s, if_neg i10, p_fact hC.sh e2 hj, bnd_s]
        · obtain ⟨g4, k1, k2, k3⟩ := m_form (n := n) (by omega) hM (show k < 32 by omega) hf h6
          obtain ⟨i1, i2⟩ := form_inv h4 h5 h26 k3
          refine ⟨g4, ?_, i1, i2⟩
          rcases term_cases (n := n) hC.sh e2 k2 (nI j) with ⟨w1, w2⟩ | ⟨j', hj', e, w1, w2⟩
          · rw [p_has hC.sh e2 hj] at w1; cases w1
          · rw [hMM g2 g3 g4 h3 k1 k2, w2, bnd_s, if_neg i10, hM.f23, drf_s, grd_t hM.k23, hM.l23, ix416, grd_t (by rw [inr_eq (by omega)]; omega), clamp (by omega)]
            have := (m_mon k2 hj).2
            rw [show 32 * 416 = 13312 from rfl] at this
            rw [this]
      · refine ⟨-1, g1, ?_, e3.mono (by omega) (by omega), fun g2 g3 h3 h4 h5 h26 h6 => ?_⟩
        · have : f_X5_hasTerm n Z (c + 1455) x3 g1 = some (0, g1) := by
            unfold f_X5_hasTerm
            rw [grd_t hC.sh.1]
            by_cases w : x3 < 0
            · rw [if_pos w]
            · obtain ⟨j, j1, rfl⟩ := nI_of w
              rw [if_neg w, e2.1, if_pos ((nle (by omega) (by omega)).mpr (Nat.le_of_not_lt fun z => ht ⟨j, z, rfl⟩))]
          rw [hCC, this, bnd_s, if_pos rfl]
        · obtain ⟨g4, k1, k2, k3⟩ := m_form (n := n) (by omega) hM (show k < 32 by omega) hf h6
          obtain ⟨i1, i2⟩ := form_inv h4 h5 h26 k3
          refine ⟨g4, ?_, i1, i2⟩
          rcases term_cases (n := n) hC.sh e2 k2 x3 with ⟨w1, w2⟩ | ⟨j', hj', e, w1, w2⟩
          · rw [hMM g2 g3 g4 h3 k1 k2, w2, bnd_s, if_pos rfl]
          · exact absurd ⟨j', hj', e⟩ ht
theorem a_exponent (hn : 500 ≤ n) (hC : CZ Z c) (hM : MZ Z m) (hd : c + 1462 ≤ m) (x1 x2 x3 x4 : Int32) (h : LInv c m g) : Agree c m (f_X10_exponent n Z c x1 x2 x3 x4) (f_X11_exponent n Z m x1 x2 x3 x4) g := by
  refine row_call (r0 := (-1 : Int32)) (x := x1) hn hC hM hd h ⟨fun q h1 h2 => ?_, fun g g' h1 => ?_⟩ fun b hb len T P v k q a hP hc hk h32 hx h1 h2 hZ hI ha1 ha2 => ?_
  · unfold f_X10_exponent; rw [grd_t hC.k, hC.f7, drf_s, h1, bnd_s, drf_s, h2, bnd_s, if_pos rfl]
  · unfold f_X11_exponent; rw [grd_t hM.k, h1, bnd_s, if_pos rfl]
  · rcases c_isForm (n := n) (Z := Z) x2 with ⟨_, f1, f2⟩ | ⟨f, hf, rfl, f1, f2⟩
    · refine ⟨-2, g, ?_, Fr.rfl, fun g2 g3 h3 h4 h5 h26 h6 => ⟨g3, ?_, h4, Fr.rfl⟩⟩
      · unfold f_X10_exponent; rw [grd_t hC.k, hC.f7, drf_s, h1, bnd_s, drf_s, h2, bnd_s, if_neg (by simp), f1, bnd_s, if_pos rfl]
      · unfold f_X11_exponent; rw [grd_t hM.k, h3, bnd_s, if_neg i10, f2, bnd_s, if_pos rfl]
    have hC1 : f_X10_exponent n Z c x1 (nI f) x3 x4 g = if x4 < 0 then (some ((-2 : Int32), g)) else (if x4 < (16 : Int32) then (bnd (f_X5_setToForm n Z (c + 1455) a (nI f) g) (fun r22 g23 => (bnd (f_X5_hasTerm n Z (c + 1455) x3 g23) (fun r27 g28 => if r27 = 0 then (some ((-1 : Int32), g28)) else (bnd (f_X5_monomialAt n Z (c + 1455) x3 g28) (fun r33 g34 => bnd (f_X4_power n Z r33 x4 g34) (fun r36 g37 => some (r36, g37)))))))) else (some ((-2 : Int32), g))) := by
      unfold f_X10_exponent; rw [grd_t hC.k, hC.f7, drf_s, h1, bnd_s, drf_s, h2, bnd_s, if_neg (by simp), f1, bnd_s, if_neg i10, hC.f8]; rfl
    have hM1 : ∀ g2 g3, f_X11_isRow n Z m x1 g2 = some (1, g3) → f_X11_exponent n Z m x1 (nI f) x3 x4 g2 = bnd (f_X11_in n Z x4 (0 : Int32) (15 : Int32) g3) (fun r9 g10 => if r9 = 0 then (some ((-2 : Int32), g10)) else (bnd (f_X11_laysForm n Z m (nI k) (nI f) g10) (fun r13 g14 => bnd (f_X11_in n Z x3 (0 : Int32) ((gI g14 (m + 15) 416) - (1 : Int32)) g14) (fun r20 g21 => if r20 = 0 then (some ((-1 : Int32), g21)) else (drf (zf Z m 22) (fun b24 => grd (zk Z b24 = 13) (grd (inr ((13312 : Int32) + x3) (zl Z b24)) (bnd (f_X11_exponentOf n Z (gJ g21 b24 ((13312 : Int32) + x3).toNatClampNeg) x4 g21) (fun r28 g29 => some (r28, g29)))))))))) := fun g2 g3 h3 => by
      unfold f_X11_exponent; rw [grd_t hM.k, h3, bnd_s, if_neg i10, f2, bnd_s, if_neg i10, hx]
      simp only [hM.f21, drf_s, hM.k21, hM.l21, grd_true, grd_t (show inr (416 : Int32) 448 by decide), show (416 : Int32).toNatClampNeg = 416 by decide]
    rcases pk_ix x4 (n := 16) (by omega) with q4 | q4 | ⟨t, ht, rfl⟩
    · refine ⟨-2, g, ?_, Fr.rfl, fun g2 g3 h3 h4 h5 h26 h6 => ⟨g3, ?_, h4, Fr.rfl⟩⟩
      · rw [hC1, if_pos q4]
      · rw [hM1 _ _ h3, show f_X11_in n Z x4 0 15 g3 = some (0, g3) from m_inO (hi := 15) (by omega) (Or.inl q4), bnd_s, if_pos rfl]
    · refine ⟨-2, g, ?_, Fr.rfl, fun g2 g3 h3 h4 h5 h26 h6 => ⟨g3, ?_, h4, Fr.rfl⟩⟩
      · rw [hC1]
        by_cases w : x4 < 0
        · rw [if_pos w]
        · rw [if_neg w, if_neg (show ¬ x4 < (16 : Int32) from Int32.not_lt.mpr q4)]
      · rw [hM1 _ _ h3, show f_X11_in n Z x4 0 15 g3 = some (0, g3) from m_inO (hi := 15) (by omega) (Or.inr q4), bnd_s, if_pos rfl]
    obtain ⟨g1, e1, e2, e3⟩ := c_form (n := n) (g := g) (by omega) hC.sh hZ (by omega) hf hI
    have hl := e2.2.1
    have hCC : f_X10_exponent n Z c x1 (nI f) x3 (nI t) g = bnd (f_X5_hasTerm n Z (c + 1455) x3 g1) (fun r27 g28 => if r27 = 0 then (some ((-1 : Int32), g28)) else (bnd (f_X5_monomialAt n Z (c + 1455) x3 g28) (fun r33 g34 => bnd (f_X4_power n Z r33 (nI t) g34) (fun r36 g37 => some (r36, g37))))) := by
      rw [hC1, if_neg (fun q => by rw [not_neg (by omega)] at q; exact q), if_pos (show nI t < (16 : Int32) from (nlt (b := 16) (by omega) (by omega)).mpr ht), e1, bnd_s]
    have hMM : ∀ g2 g3 g4, f_X11_isRow n Z m x1 g2 = some (1, g3) → f_X11_laysForm n Z m (nI k) (nI f) g3 = some ((), g4) → MIs g4 m 416 (fin f (rowP v k)) → f_X11_exponent n Z m x1 (nI f) x3 (nI t) g2 = bnd (f_X11_in n Z x3 (0 : Int32) (nI (fin f (rowP v k)).length - (1 : Int32)) g4) (fun r20 g21 => if r20 = 0 then (some ((-1 : Int32), g21)) else (drf (zf Z m 22) (fun b24 => grd (zk Z b24 = 13) (grd (inr ((13312 : Int32) + x3) (zl Z b24)) (bnd (f_X11_exponentOf n Z (gJ g21 b24 ((13312 : Int32) + x3).toNatClampNeg) (nI t) g21) (fun r28 g29 => some (r28, g29))))))) := fun g2 g3 g4 h3 k1 k2 => by
      rw [hM1 _ _ h3, in_15 ht, bnd_s, if_neg i10, k1, bnd_s, k2.1]
    by_cases htm : ∃ j, j < (fin f (rowP v k)).length ∧ x3 = nI j
    · obtain ⟨j, hj, rfl⟩ := htm
      refine ⟨nI (ex ((fin f (rowP v k)).getD j (0, 0)).1 t), g1, ?_, e3.mono (by omega) (by omega), fun g2 g3 h3 h4 h5 h26 h6 => ?_⟩
      · rw [hCC, p_has hC.sh e2 hj, bnd_s, if_neg i10, p_mono hC.sh e2 hj, bnd_s, c_power ht, bnd_s]
      · obtain ⟨g4, k1, k2, k3⟩ := m_form (n := n) (by omega) hM (show k < 32 by omega) hf h6
        obtain ⟨i1, i2⟩ := form_inv h4 h5 h26 k3
        refine ⟨g4, ?_, i1, i2⟩
        rcases term_cases (n := n) hC.sh e2 k2 (nI j) with ⟨w1, w2⟩ | ⟨j', hj', e, w1, w2⟩
        · rw [p_has hC.sh e2 hj] at w1; cases w1
        · have := (m_mon k2 hj).1
          rw [show 32 * 416 = 13312 from rfl] at this
          rw [hMM g2 g3 g4 h3 k1 k2, w2, bnd_s, if_neg i10, hM.f22, drf_s, grd_t hM.k22, hM.l22, ix416, grd_t (by rw [inr_eq (by omega)]; omega), clamp (by omega), this, m_exp ht, bnd_s]
    · refine ⟨-1, g1, ?_, e3.mono (by omega) (by omega), fun g2 g3 h3 h4 h5 h26 h6 => ?_⟩
      · have : f_X5_hasTerm n Z (c + 1455) x3 g1 = some (0, g1) := by
          unfold f_X5_hasTerm
          rw [grd_t hC.sh.1]
          by_cases w : x3 < 0
          · rw [if_pos w]
          · obtain ⟨j, j1, rfl⟩ := nI_of w
            rw [if_neg w, e2.1, if_pos ((nle (by omega) (by omega)).mpr (Nat.le_of_not_lt fun z => htm ⟨j, z, rfl⟩))]
        rw [hCC, this, bnd_s, if_pos rfl]
      · obtain ⟨g4, k1, k2, k3⟩ := m_form (n := n) (by omega) hM (show k < 32 by omega) hf h6
        obtain ⟨i1, i2⟩ := form_inv h4 h5 h26 k3
        refine ⟨g4, ?_, i1, i2⟩
        rcases term_cases (n := n) hC.sh e2 k2 x3 with ⟨w1, w2⟩ | ⟨j', hj', e, w1, w2⟩
        · rw [hMM g2 g3 g4 h3 k1 k2, w2, bnd_s, if_pos rfl]
        · exact absurd ⟨j', hj', e⟩ htm
end TERMS

/-! MASKS -/
def mk (p : Nat → Bool) : Nat → Nat
  | 0 => 0
  | k + 1 => mk p k ||| if p k then 2 ^ k else 0
theorem mk_lt (p : Nat → Bool) : ∀ k, mk p k < 2 ^ k
  | 0 => Nat.lt_of_lt_of_le Nat.zero_lt_one (Nat.le_refl _)
  | k + 1 => by
    have h1 := mk_lt p k
    have h2 : 2 ^ k < 2 ^ (k + 1) := Nat.pow_lt_pow_right (by omega) (by omega)
    unfold mk
    apply Nat.or_lt_two_pow (by omega)
    by_cases q : p k = true
    · rw [if_pos q]; exact h2
    · rw [if_neg q]; omega
theorem mk_bit (p : Nat → Bool) (t : Nat) : ∀ k, (mk p k).testBit t = (decide (t < k) && p t)
  | 0 => by simp [mk]
  | k + 1 => by
    unfold mk
    rw [Nat.testBit_or, mk_bit p t k]
    by_cases q : p k = true
    · rw [if_pos q, Nat.testBit_two_pow]
      by_cases h : k = t
      · subst h; simp [q]
      · by_cases h2 : t < k
        · simp [h, h2, show t < k + 1 by omega]
        · simp [h, h2, show ¬ t < k + 1 by omega]
    · rw [if_neg q]
      by_cases h : k = t
      · subst h; simp [q]
      · by_cases h2 : t < k
        · simp [h2, show t < k + 1 by omega]
        · simp [h2, show ¬ t < k + 1 by omega]
theorem bm_mk (p : Nat → Bool) : BM (mk p 16) p := ⟨mk_lt p 16, fun t ht => by rw [mk_bit]; simp [ht]⟩
theorem BM.uniq {M M' : Nat} {p : Nat → Bool} (h : BM M p) (h' : BM M' p) : M = M' := by
  apply Nat.eq_of_testBit_eq
  intro i
  by_cases hi : i < 16
  · rw [h.2 i hi, h'.2 i hi]
  · have h1 : M < 2 ^ i := Nat.lt_of_lt_of_le h.1 (Nat.pow_le_pow_right (n := 2) (i := 16) (by omega) (by omega))
    have h2 : M' < 2 ^ i := Nat.lt_of_lt_of_le h'.1 (Nat.pow_le_pow_right (n := 2) (i := 16) (by omega) (by omega))
    rw [Nat.testBit_lt_two_pow h1, Nat.testBit_lt_two_pow h2]
theorem BM.cong {M : Nat} {p q : Nat → Bool} (h : BM M p) (e : ∀ t, t < 16 → p t = q t) : BM M q := ⟨h.1, fun t ht => by rw [h.2 t ht, e t ht]⟩
theorem one_shl {t : Nat} (ht : t < 16) : (1 : Int32) <<< (nI t &&& 31) = nI (2 ^ t) := by
  have h := shl_n (a := 1) (k := t) (by have : 2 ^ t < 2 ^ 16 := Nat.pow_lt_pow_right (by omega) ht; omega) (by omega)
  rw [Nat.one_mul] at h
  exact h
theorem p2_lt {t : Nat} (ht : t < 16) : 2 ^ t < 65536 := by
  have h : 2 ^ t < 2 ^ 16 := Nat.pow_lt_pow_right (by omega) ht
  omega
theorem xor_n {a b : Nat} (ha : a < 4294967296) (hb : b < 4294967296) : nI a ^^^ nI b = nI (a ^^^ b) := by
  apply Int32.toBitVec_inj.mp
  apply BitVec.eq_of_toNat_eq
  have : a ^^^ b < 2 ^ 32 := Nat.xor_lt_two_pow ha hb
  rw [Int32.toBitVec_xor, BitVec.toNat_xor, pk_tn ha, pk_tn hb, pk_tn this]
theorem bm_or {M t : Nat} {p : Nat → Bool} (h : BM M p) (ht : t < 16) : ∃ M', nI M ||| ((1 : Int32) <<< (nI t &&& 31)) = nI M' ∧ BM M' fun s => decide (s = t) || p s := by
  have h1 := h.1
  have h2 := p2_lt ht
  refine ⟨M ||| 2 ^ t, by rw [one_shl ht, or_n (by omega) (by omega)], Nat.or_lt_two_pow (n := 16) h1 h2, fun s hs => ?_⟩
  rw [Nat.testBit_or, h.2 s hs, Nat.testBit_two_pow]
  by_cases q : t = s
  · subst q; simp
  · simp [q, Ne.symm q]
theorem bm_off {M t : Nat} {p : Nat → Bool} (h : BM M p) (ht : t < 16) : ∃ M', nI M &&& (((1 : Int32) <<< (nI t &&& 31)) ^^^ (-1)) = nI M' ∧ BM M' fun s => !decide (s = t) && p s := by
  have h1 := h.1
  have h2 := p2_lt ht
  have h3 : 2 ^ t ^^^ 4294967295 < 2 ^ 32 := Nat.xor_lt_two_pow (by omega) (by omega)
  have h4 : M &&& (2 ^ t ^^^ 4294967295) ≤ M := Nat.and_le_left
  refine ⟨M &&& (2 ^ t ^^^ 4294967295), by rw [one_shl ht, show (-1 : Int32) = nI 4294967295 from rfl, xor_n (by omega) (by omega), and_n (by omega) (by omega)], by omega, fun s hs => ?_⟩
  rw [Nat.testBit_and, h.2 s hs, Nat.testBit_xor, Nat.testBit_two_pow, show (4294967295 : Nat) = 2 ^ 32 - 1 from rfl, Nat.testBit_two_pow_sub_one]
  by_cases q : t = s
  · subst q; simp [show t < 32 by omega]
  · simp [q, Ne.symm q, show s < 32 by omega]
/-! the base rows change -/
def up (b : Nat → Nat) (i v : Nat) : Nat → Nat := fun j => if j = i then v else b j
def setRow (b : Nat → Nat) (t tab v c tr gone : Nat) : Nat → Nat := up (up (up (up (up b (4 + 5 * t) tab) (5 + 5 * t) v) (6 + 5 * t) c) (7 + 5 * t) tr) (8 + 5 * t) gone
theorem setRow_4 {b : Nat → Nat} {t tab v c tr gone s : Nat} : setRow b t tab v c tr gone (4 + 5 * s) = if s = t then tab else b (4 + 5 * s) := by
  by_cases h : s = t
  · subst h; simp (disch := omega) only [setRow, up, if_pos, if_neg, ↓reduceIte]
  · simp (disch := omega) only [setRow, up, if_neg, ↓reduceIte]
theorem setRow_5 {b : Nat → Nat} {t tab v c tr gone s : Nat} : setRow b t tab v c tr gone (5 + 5 * s) = if s = t then v else b (5 + 5 * s) := by
  by_cases h : s = t
  · subst h; simp (disch := omega) only [setRow, up, if_pos, if_neg, ↓reduceIte]
  · simp (disch := omega) only [setRow, up, if_neg, ↓reduceIte]
theorem setRow_6 {b : Nat → Nat} {t tab v c tr gone s : Nat} : setRow b t tab v c tr gone (6 + 5 * s) = if s = t then c else b (6 + 5 * s) := by
  by_cases h : s = t
  · subst h; simp (disch := omega) only [setRow, up, if_pos, if_neg, ↓reduceIte]
  · simp (disch := omega) only [setRow, up, if_neg, ↓reduceIte]
theorem setRow_7 {b : Nat → Nat} {t tab v c tr gone s : Nat} : setRow b t tab v c tr gone (7 + 5 * s) = if s = t then tr else b (7 + 5 * s) := by
  by_cases h : s = t
  · subst h; simp (disch := omega) only [setRow, up, if_pos, if_neg, ↓reduceIte]
  · simp (disch := omega) only [setRow, up, if_neg, ↓reduceIte]
theorem setRow_8 {b : Nat → Nat} {t tab v c tr gone s : Nat} : setRow b t tab v c tr gone (8 + 5 * s) = if s = t then gone else b (8 + 5 * s) := by
  by_cases h : s = t
  · subst h; simp (disch := omega) only [setRow, up, if_pos, if_neg, ↓reduceIte]
  · simp (disch := omega) only [setRow, up, if_neg, ↓reduceIte]
theorem setRow_lo {b : Nat → Nat} {t tab v c tr gone s : Nat} (hs : s < 4) : setRow b t tab v c tr gone s = b s := by
  simp (disch := omega) only [setRow, up, if_neg]
theorem setRow_hi {b : Nat → Nat} {t tab v c tr gone s : Nat} (ht : t < 16) (hs : 84 ≤ s) : setRow b t tab v c tr gone s = b s := by
  simp (disch := omega) only [setRow, up, if_neg]
/-! the class -/
theorem s_mask {n : Nat} {Z : Zt} {a : Nat} {g : Mem} (hZ : SZ Z a) : f_X8_tagMask n Z a g = some (gI g a 6, g) := by unfold f_X8_tagMask; rw [grd_t hZ.1.k]
theorem s_gone {n : Nat} {Z : Zt} {a : Nat} {g : Mem} (hZ : SZ Z a) : f_X8_withdrawnMask n Z a g = some (gI g a 7, g) := by unfold f_X8_withdrawnMask; rw [grd_t hZ.1.k]
def tagB (b : Nat → Nat) : Nat → Bool := fun t => decide (b (4 + 5 * t) ≠ 0)
def goneB (b : Nat → Nat) : Nat → Bool := fun t => decide (b (8 + 5 * t) = 1)
theorem StIs.m6 {g : Mem} {a : Nat} {b : Nat → Nat} (h : StIs g a b) : gI g a 6 = nI (mk (tagB b) 16) := by
  obtain ⟨M, h1, h2⟩ := h.2.2.1
  rw [h1, h2.uniq (bm_mk _)]; rfl
theorem StIs.m7 {g : Mem} {a : Nat} {b : Nat → Nat} (h : StIs g a b) : gI g a 7 = nI (mk (goneB b) 16) := by
  obtain ⟨M, h1, h2⟩ := h.2.2.2.1
  rw [h1, h2.uniq (bm_mk _)]; rfl
theorem s_line {n : Nat} {Z : Zt} {a : Nat} {g : Mem} (hZ : SZ Z a) : f_X8_queryLine n Z a g = some (some (a + 6), g) := by
  unfold f_X8_queryLine; rw [grd_t hZ.1.k, hZ.1.f5, drf_s]
theorem s_cost {n : Nat} {Z : Zt} {a t : Nat} {g : Mem} {b : Nat → Nat} (hZ : SZ Z a) (hS : StIs g a b) (ht : t < 16) : f_X8_costOf n Z a (nI t) g = some (if b (4 + 5 * t) = 0 then 0 else nI (b (6 + 5 * t)), g) := by
  have z := hZ.1
  unfold f_X8_costOf
  rw [grd_t z.k, s_has hZ hS ht, bnd_s]
  by_cases q : b (4 + 5 * t) = 0
  · rw [if_pos q, if_pos rfl, if_pos q]
  · rw [if_neg q, if_neg (by decide), if_neg q]
    simp (disch := omega) only [z.f3, z.k3, z.l3, drf_s, grd_t, grd_true, inr_eq, clamp, (hS.2.1 t ht q).2.2.1]
theorem s_trust {n : Nat} {Z : Zt} {a t : Nat} {g : Mem} {b : Nat → Nat} (hZ : SZ Z a) (hS : StIs g a b) (ht : t < 16) : f_X8_trustOf n Z a (nI t) g = some (if b (4 + 5 * t) = 0 then 0 else nI (b (7 + 5 * t)), g) := by
  have z := hZ.1
  unfold f_X8_trustOf
  rw [grd_t z.k, s_has hZ hS ht, bnd_s]
  by_cases q : b (4 + 5 * t) = 0
  · rw [if_pos q, if_pos rfl, if_pos q]
  · rw [if_neg q, if_neg (by decide), if_neg q]
    simp (disch := omega) only [z.f4, z.k4, z.l4, drf_s, grd_t, grd_true, inr_eq, clamp, (hS.2.1 t ht q).2.2.2]
theorem StIs.line {g : Mem} {a : Nat} {b b' : Nat → Nat} (h : StIs g a b) (e : ∀ k, 84 ≤ k → b' k = b k) : LIs g (a + 6) (b' 84) fun k => b' (85 + k) := by
  rw [e 84 (by omega)]
  exact h.2.2.2.2.cong fun k hk => (e _ (by omega)).symm
/-- Line and masks stay where other cells of a state change -/
theorem s_place {n : Nat} {Z : Zt} {a t tab v : Nat} {g : Mem} {b : Nat → Nat} (hZ : SZ Z a) (hS : StIs g a b) (ht : t < 16) : ∃ g', f_X8_place n Z a (nI t) (nI tab) (nI (pk v)) g = some ((), g') ∧ StIs g' a (setRow b t (tab + 1) v 1 100 0) ∧ Fr a (a + 8) g g' := by
  have z := hZ.1
  obtain ⟨h1, h2, ⟨M, h3, h3'⟩, ⟨W, h4, h4'⟩, h5⟩ := id hS
  obtain ⟨M', k1, k2⟩ := bm_or h3' ht
  obtain ⟨W', k3, k4⟩ := bm_off h4' ht
  refine ⟨sI (sI (sI (sI (sI (sI g (a + 2) t (nI tab)) (a + 3) t (nI (pk v))) (a + 4) t 1) (a + 5) t 100) a 6 (nI M')) a 7 (nI W'), ?_, ⟨fun s hs => ?_, fun s hs hb => ?_, ⟨M', ?_, ?_⟩, ⟨W', ?_, ?_⟩, ?_⟩, ?_⟩
  · unfold f_X8_place
    have e6 : ∀ x1 x2 x3 x4 : Int32, gI (sI (sI (sI (sI g (a + 2) t x1) (a + 3) t x2) (a + 4) t x3) (a + 5) t x4) a 6 = nI M := fun x1 x2 x3 x4 => by simp (disch := omega) only [gI_sI, if_neg, h3]
    have e7 : ∀ x1 x2 x3 x4 x5 : Int32, gI (sI (sI (sI (sI (sI g (a + 2) t x1) (a + 3) t x2) (a + 4) t x3) (a + 5) t x4) a 6 x5) a 7 = nI W := fun x1 x2 x3 x4 x5 => by simp (disch := omega) only [gI_sI, if_neg, h4]
    rw [grd_t z.k, if_neg (fun q => by rw [not_neg (by omega)] at q; exact q), if_pos ((nltL (by omega) (by omega)).mpr (by omega))]
    simp (disch := omega) only [z.f1, z.k1, z.l1, z.f2, z.k2, z.l2, z.f3, z.k3, z.l3, z.f4, z.k4, z.l4, drf_s, grd_t, grd_true, inr_eq, clamp, e6, e7, k1, k3]
  · rw [setRow_lo hs]; simp (disch := omega) only [gI_sI, if_neg]; exact h1 s hs
  · rw [setRow_4] at hb ⊢
    rw [setRow_5, setRow_6, setRow_7]
    by_cases q : s = t
    · subst q
      simp (disch := omega) only [gI_sI, if_neg, if_pos, and_self, true_and, ↓reduceIte, Nat.add_sub_cancel]
      exact ⟨rfl, rfl⟩
    · rw [if_neg q] at hb
      simp (disch := omega) only [gI_sI, if_neg]
      exact h2 s hs hb
  · simp (disch := omega) only [gI_sI, if_neg, if_pos, and_self, ↓reduceIte]
  · refine k2.cong fun s hs => ?_
    rw [setRow_4]
    by_cases q : s = t
    · simp [q]
    · simp [q]
  · simp (disch := omega) only [gI_sI, if_neg, if_pos, and_self, ↓reduceIte]
  · refine k4.cong fun s hs => ?_
    rw [setRow_8]
    by_cases q : s = t
    · simp [q]
    · simp [q]
  · refine (hS.line fun k hk => setRow_hi ht hk).fr (lo := a) (hi := a + 6) ?_ (by omega)
    exact (((((Fr.rfl.sI (by omega) (by omega)).sI (by omega) (by omega)).sI (by omega) (by omega)).sI (by omega) (by omega)).sI (by omega) (by omega)).sI (by omega) (by omega)
  · exact (((((Fr.rfl.sI (by omega) (by omega)).sI (by omega) (by omega)).sI (by omega) (by omega)).sI (by omega) (by omega)).sI (by omega) (by omega)).sI (by omega) (by omega)
theorem s_remove {n : Nat} {Z : Zt} {a t : Nat} {g : Mem} {b : Nat → Nat} (hZ : SZ Z a) (hS : StIs g a b) (ht : t < 16) : ∃ g', f_X8_remove n Z a (nI t) g = some ((), g') ∧ StIs g' a (setRow b t 0 0 0 0 0) ∧ Fr a (a + 8) g g' := by
  have z := hZ.1
  obtain ⟨h1, h2, ⟨M, h3, h3'⟩, ⟨W, h4, h4'⟩, h5⟩ := id hS
  obtain ⟨M', k1, k2⟩ := bm_off h3' ht
  obtain ⟨W', k3, k4⟩ := bm_off h4' ht
  refine ⟨sI (sI g a 6 (nI M')) a 7 (nI W'), ?_, ⟨fun s hs => ?_, fun s hs hb => ?_, ⟨M', ?_, ?_⟩, ⟨W', ?_, ?_⟩, ?_⟩, ?_⟩
  · unfold f_X8_remove
    have e7 : ∀ x5 : Int32, gI (sI g a 6 x5) a 7 = nI W := fun x5 => by simp (disch := omega) only [gI_sI, if_neg, h4]
    rw [grd_t z.k, h3, k1, e7, k3]
  · rw [setRow_lo hs]; simp (disch := omega) only [gI_sI, if_neg]; exact h1 s hs
  · rw [setRow_4] at hb ⊢
    by_cases q : s = t
    · rw [if_pos q] at hb; exact absurd rfl hb
    · rw [if_neg q] at hb
      rw [setRow_5, setRow_6, setRow_7]
      simp (disch := omega) only [gI_sI, if_neg]
      exact h2 s hs hb
  · simp (disch := omega) only [gI_sI, if_neg, if_pos, and_self, ↓reduceIte]
  · refine k2.cong fun s hs => ?_
    rw [setRow_4]
    by_cases q : s = t
    · simp [q]
    · simp [q]
  · simp (disch := omega) only [gI_sI, if_neg, if_pos, and_self, ↓reduceIte]
  · refine k4.cong fun s hs => ?_
    rw [setRow_8]
    by_cases q : s = t
    · simp [q]
    · simp [q]
  · exact (hS.line fun k hk => setRow_hi ht hk).fr (lo := a) (hi := a + 6) ((Fr.rfl.sI (by omega) (by omega)).sI (by omega) (by omega)) (by omega)
  · exact (Fr.rfl.sI (by omega) (by omega)).sI (by omega) (by omega)
theorem up_ne {b : Nat → Nat} {i v j : Nat} (h : j ≠ i) : up b i v j = b j := if_neg h
theorem up_eq {b : Nat → Nat} {i v : Nat} : up b i v i = v := if_pos rfl
theorem s_withdraw {n : Nat} {Z : Zt} {a t w : Nat} {g : Mem} {b : Nat → Nat} (hZ : SZ Z a) (hS : StIs g a b) (ht : t < 16) (hw : w ≤ 1) : ∃ g', f_X8_withdraw n Z a (nI t) (nI w) g = some ((), g') ∧ StIs g' a (up b (8 + 5 * t) w) ∧ Fr a (a + 8) g g' := by
  have z := hZ.1
  obtain ⟨h1, h2, h3, ⟨W, h4, h4'⟩, h5⟩ := id hS
  have K : ∃ W', (if w = 0 then f_X8_withdraw n Z a (nI t) (nI w) g = some ((), sI g a 7 (nI W')) else f_X8_withdraw n Z a (nI t) (nI w) g = some ((), sI g a 7 (nI W'))) ∧ BM W' (goneB (up b (8 + 5 * t) w)) := by
    unfold f_X8_withdraw
    rw [grd_t z.k, h4]
    by_cases q : w = 0
    · subst q
      obtain ⟨W', k3, k4⟩ := bm_off h4' ht
      refine ⟨W', ?_, k4.cong fun s hs => ?_⟩
      · rw [if_pos rfl, if_pos (show nI 0 = 0 from rfl), k3]
      · unfold goneB
        by_cases r : s = t
        · subst r; simp [up_eq]
        · rw [up_ne (by omega)]; simp [r]
    · have hw1 : w = 1 := by omega
      subst hw1
      obtain ⟨W', k3, k4⟩ := bm_or h4' ht
      refine ⟨W', ?_, k4.cong fun s hs => ?_⟩
      · rw [if_neg (by decide), if_neg (show ¬ nI 1 = 0 by decide), k3]
      · unfold goneB
        by_cases r : s = t
        · subst r; simp [up_eq]
        · rw [up_ne (by omega)]; simp [r]
  obtain ⟨W', k1, k2⟩ := K
  refine ⟨sI g a 7 (nI W'), by split at k1 <;> exact k1, ⟨fun s hs => ?_, fun s hs hb => ?_, ?_, ⟨W', ?_, k2⟩, ?_⟩, ?_⟩
  · rw [up_ne (by omega)]; simp (disch := omega) only [gI_sI, if_neg]; exact h1 s hs
  · rw [up_ne (by omega)] at hb
    rw [up_ne (by omega), up_ne (by omega), up_ne (by omega), up_ne (by omega)]
    simp (disch := omega) only [gI_sI, if_neg]
    exact h2 s hs hb
  · obtain ⟨M, h3, h3'⟩ := h3
    refine ⟨M, ?_, h3'.cong fun s hs => by rw [up_ne (by omega)]⟩
    simp (disch := omega) only [gI_sI, if_neg, h3]
  · simp (disch := omega) only [gI_sI, if_pos, and_self, ↓reduceIte]
  · exact (hS.line fun k hk => up_ne (by omega)).fr (lo := a) (hi := a + 6) (Fr.rfl.sI (by omega) (by omega)) (by omega)
  · exact Fr.rfl.sI (by omega) (by omega)
theorem s_setCost {n : Nat} {Z : Zt} {a t v : Nat} {g : Mem} {b : Nat → Nat} (hZ : SZ Z a) (hS : StIs g a b) (ht : t < 16) (hb0 : b (4 + 5 * t) ≠ 0) : ∃ g', f_X8_changeCost n Z a (nI t) (nI v) g = some ((), g') ∧ StIs g' a (up b (6 + 5 * t) v) ∧ Fr a (a + 8) g g' := by
  have z := hZ.1
  obtain ⟨h1, h2, ⟨M, h3, h3'⟩, ⟨W, h4, h4'⟩, h5⟩ := id hS
  refine ⟨sI g (a + 4) t (nI v), ?_, ⟨fun s hs => ?_, fun s hs hb => ?_, ⟨M, ?_, ?_⟩, ⟨W, ?_, ?_⟩, ?_⟩, Fr.rfl.sI (by omega) (by omega)⟩
  · unfold f_X8_changeCost
    rw [grd_t z.k, s_has hZ hS ht, bnd_s, if_neg hb0, if_neg (by decide)]
    simp (disch := omega) only [z.f3, z.k3, z.l3, drf_s, grd_t, grd_true, inr_eq, clamp]
  · rw [up_ne (by omega)]; simp (disch := omega) only [gI_sI, if_neg]; exact h1 s hs
  · rw [up_ne (by omega)] at hb
    obtain ⟨c1, c2, c3, c4⟩ := h2 s hs hb
    rw [up_ne (by omega), up_ne (by omega), up_ne (i := 6 + 5 * t) (j := 7 + 5 * s) (by omega)]
    refine ⟨by simp (disch := omega) only [gI_sI, if_neg, c1], by simp (disch := omega) only [gI_sI, if_neg, c2], ?_, by simp (disch := omega) only [gI_sI, if_neg, c4]⟩
    by_cases q : s = t
    · subst q; rw [up_eq, gI_sI, if_pos ⟨rfl, rfl⟩]
    · rw [up_ne (by omega), gI_sI, if_neg (by omega)]; exact c3
  · simp (disch := omega) only [gI_sI, if_neg, h3]
  · exact h3'.cong fun s hs => by rw [up_ne (by omega)]
  · simp (disch := omega) only [gI_sI, if_neg, h4]
  · exact h4'.cong fun s hs => by rw [up_ne (by omega)]
  · exact (hS.line fun k hk => up_ne (by omega)).fr (lo := a) (hi := a + 6) (Fr.rfl.sI (by omega) (by omega)) (by omega)
theorem s_setTrust {n : Nat} {Z : Zt} {a t v : Nat} {g : Mem} {b : Nat → Nat} (hZ : SZ Z a) (hS : StIs g a b) (ht : t < 16) (hb0 : b (4 + 5 * t) ≠ 0) : ∃ g', f_X8_changeTrust n Z a (nI t) (nI v) g = some ((), g') ∧ StIs g' a (up b (7 + 5 * t) v) ∧ Fr a (a + 8) g g' := by
  have z := hZ.1
  obtain ⟨h1, h2, ⟨M, h3, h3'⟩, ⟨W, h4, h4'⟩, h5⟩ := id hS
  refine ⟨sI g (a + 5) t (nI v), ?_, ⟨fun s hs => ?_, fun s hs hb => ?_, ⟨M, ?_, ?_⟩, ⟨W, ?_, ?_⟩, ?_⟩, Fr.rfl.sI (by omega) (by omega)⟩
  · unfold f_X8_changeTrust
    rw [grd_t z.k, s_has hZ hS ht, bnd_s, if_neg hb0, if_neg (by decide)]
    simp (disch := omega) only [z.f4, z.k4, z.l4, drf_s, grd_t, grd_true, inr_eq, clamp]
  · rw [up_ne (by omega)]; simp (disch := omega) only [gI_sI, if_neg]; exact h1 s hs
  · rw [up_ne (by omega)] at hb
    obtain ⟨c1, c2, c3, c4⟩ := h2 s hs hb
    rw [up_ne (by omega), up_ne (by omega), up_ne (i := 7 + 5 * t) (j := 6 + 5 * s) (by omega)]
    refine ⟨by simp (disch := omega) only [gI_sI, if_neg, c1], by simp (disch := omega) only [gI_sI, if_neg, c2], by simp (disch := omega) only [gI_sI, if_neg, c3], ?_⟩
    by_cases q : s = t
    · subst q; rw [up_eq, gI_sI, if_pos ⟨rfl, rfl⟩]
    · rw [up_ne (by omega), gI_sI, if_neg (by omega)]; exact c4
  · simp (disch := omega) only [gI_sI, if_neg, h3]
  · exact h3'.cong fun s hs => by rw [up_ne (by omega)]
  · simp (disch := omega) only [gI_sI, if_neg, h4]
  · exact h4'.cong fun s hs => by rw [up_ne (by omega)]
  · exact (hS.line fun k hk => up_ne (by omega)).fr (lo := a) (hi := a + 6) (Fr.rfl.sI (by omega) (by omega)) (by omega)
theorem s_setWidth {n : Nat} {Z : Zt} {a t v : Nat} {g : Mem} {b : Nat → Nat} (hZ : SZ Z a) (hS : StIs g a b) (ht : t < 4) : ∃ g', f_X8_setWidth n Z a (nI t) (nI v) g = some ((), g') ∧ StIs g' a (up b t v) ∧ Fr a (a + 8) g g' := by
  have z := hZ.1
  obtain ⟨h1, h2, ⟨M, h3, h3'⟩, ⟨W, h4, h4'⟩, h5⟩ := id hS
  refine ⟨sI g (a + 1) t (nI v), ?_, ⟨fun s hs => ?_, fun s hs hb => ?_, ⟨M, ?_, ?_⟩, ⟨W, ?_, ?_⟩, ?_⟩, Fr.rfl.sI (by omega) (by omega)⟩
  · unfold f_X8_setWidth
    rw [grd_t z.k, s_isT ht, bnd_s, if_neg (by decide)]
    simp (disch := omega) only [z.f0, z.k0, z.l0, drf_s, grd_t, grd_true, inr_eq, clamp]
  · by_cases q : s = t
    · subst q; rw [up_eq, gI_sI, if_pos ⟨rfl, rfl⟩]
    · rw [up_ne q, gI_sI, if_neg (by omega)]; exact h1 s hs
  · rw [up_ne (by omega)] at hb
    rw [up_ne (by omega), up_ne (by omega), up_ne (by omega), up_ne (by omega)]
    simp (disch := omega) only [gI_sI, if_neg]
    exact h2 s hs hb
  · simp (disch := omega) only [gI_sI, if_neg, h3]
  · exact h3'.cong fun s hs => by rw [up_ne (by omega)]
  · simp (disch := omega) only [gI_sI, if_neg, h4]
  · exact h4'.cong fun s hs => by rw [up_ne (by omega)]
  · exact (hS.line fun k hk => up_ne (by omega)).fr (lo := a) (hi := a + 6) (Fr.rfl.sI (by omega) (by omega)) (by omega)
/-- the least tag that is free -/
def FT (b : Nat → Nat) : Option Nat → Prop
  | none => ∀ t, t < 16 → b (4 + 5 * t) ≠ 0
  | some t => t < 16 ∧ b (4 + 5 * t) = 0 ∧ ∀ s, s < t → b (4 + 5 * s) ≠ 0
theorem FT.uniq {b : Nat → Nat} {o o' : Option Nat} (h : FT b o) (h' : FT b o') : o = o' := by
  cases o with
  | none => cases o' with
    | none => rfl
    | some t => exact absurd h'.2.1 (h t h'.1)
  | some s => cases o' with
    | none => exact absurd h.2.1 (h' s h.1)
    | some t =>
      have h1 : ¬ s < t := fun q => h'.2.2 s q h.2.1
      have h2 : ¬ t < s := fun q => h.2.2 t q h'.2.1
      have : s = t := by omega
      rw [this]
theorem s_free2 {n : Nat} {Z : Zt} {a : Nat} {g : Mem} {b : Nat → Nat} (hZ : SZ Z a) (hS : StIs g a b) : ∀ (d k fu : Nat), d = 16 - k → k ≤ 16 → d < fu → (∀ s, s < k → b (4 + 5 * s) ≠ 0) → ∃ o, FT b o ∧ f_X8_freeTag_l2 n Z a fu (nI k) g = some (match o with | none => -1 | some t => nI t, g) := by
  intro d
  induction d with
  | zero =>
    intro k fu h1 h2 h3 h4
    obtain ⟨fu, rfl⟩ : ∃ q, fu = q + 1 := ⟨fu - 1, by omega⟩
    refine ⟨none, fun t ht => h4 t (by omega), ?_⟩
    unfold f_X8_freeTag_l2
    simp (disch := omega) only [Lnle, if_pos]
  | succ d ih =>
    intro k fu h1 h2 h3 h4
    obtain ⟨fu, rfl⟩ : ∃ q, fu = q + 1 := ⟨fu - 1, by omega⟩
    unfold f_X8_freeTag_l2
    simp (disch := omega) only [Lnle, if_neg, s_has hZ hS (show k < 16 by omega), bnd_s]
    by_cases q : b (4 + 5 * k) = 0
    · exact ⟨some k, ⟨by omega, q, h4⟩, by rw [if_pos q, if_pos rfl]⟩
    · rw [if_neg q, if_neg (by decide), nI_1]
      exact ih (k + 1) fu (by omega) (by omega) (by omega) fun s hs => by
        by_cases w : s = k
        · subst w; exact q
        · exact h4 s (by omega)
theorem s_free {n : Nat} {Z : Zt} {a : Nat} {g : Mem} {b : Nat → Nat} (hn : 40 ≤ n) (hZ : SZ Z a) (hS : StIs g a b) : ∃ o, FT b o ∧ f_X8_freeTag n Z a g = some (match o with | none => -1 | some t => nI t, g) := by
  unfold f_X8_freeTag
  rw [grd_t hZ.1.k]
  exact s_free2 hZ hS 16 0 n (by omega) (by omega) (by omega) fun s hs => absurd hs (Nat.not_lt_zero _)
def hasR (b : Nat → Nat) (tab : Nat) : Bool := (List.range 16).any fun t => b (4 + 5 * t) == tab + 1
theorem hasR_iff {b : Nat → Nat} {tab : Nat} : hasR b tab = true ↔ ∃ t, t < 16 ∧ b (4 + 5 * t) = tab + 1 := by
  unfold hasR; simp [List.any_eq_true]
theorem s_rowIn2 {n : Nat} {Z : Zt} {a tab : Nat} {g : Mem} {b : Nat → Nat} (hb : BOk b) (hZ : SZ Z a) (hS : StIs g a b) (htab : tab < 4) : ∀ (d k fu : Nat), d = 16 - k → k ≤ 16 → d < fu → (∀ s, s < k → b (4 + 5 * s) ≠ tab + 1) → f_X8_hasRowIn_l2 n Z a fu (nI tab) (nI k) g = some (if hasR b tab then 1 else 0, g) := by
  have z := hZ.1
  intro d
  induction d with
  | zero =>
    intro k fu h1 h2 h3 h4
    obtain ⟨fu, rfl⟩ : ∃ q, fu = q + 1 := ⟨fu - 1, by omega⟩
    unfold f_X8_hasRowIn_l2
    simp (disch := omega) only [Lnle, if_pos]
    rw [if_neg (fun w => by obtain ⟨t, w1, w2⟩ := hasR_iff.mp w; exact h4 t (by omega) w2)]
  | succ d ih =>
    intro k fu h1 h2 h3 h4
    obtain ⟨fu, rfl⟩ : ∃ q, fu = q + 1 := ⟨fu - 1, by omega⟩
    have hb4 := (hb.2.1 k (by omega)).1
    unfold f_X8_hasRowIn_l2
    simp (disch := omega) only [Lnle, if_neg, s_has hZ hS (show k < 16 by omega), bnd_s]
    by_cases q : b (4 + 5 * k) = tab + 1
    · have q0 : ¬ b (4 + 5 * k) = 0 := by omega
      have h5 : gI g (a + 2) k = nI tab := by rw [(hS.2.1 k (by omega) q0).1, show b (4 + 5 * k) - 1 = tab by omega]
      rw [if_neg q0, if_neg (by decide), z.f1, drf_s]
      simp (disch := omega) only [z.k1, z.l1, grd_t, grd_true, inr_eq, clamp, h5, if_pos, ↓reduceIte]
      rw [if_pos (hasR_iff.mpr ⟨k, by omega, q⟩)]
    · have IH := ih (k + 1) fu (by omega) (by omega) (by omega) fun s hs => by
        by_cases w : s = k
        · subst w; exact q
        · exact h4 s (by omega)
      by_cases q0 : b (4 + 5 * k) = 0
      · rw [if_pos q0, if_pos rfl, nI_1]; exact IH
      · have h5 : ¬ gI g (a + 2) k = nI tab := by
          rw [(hS.2.1 k (by omega) q0).1]
          exact fun w => by have := (neq (by omega) (by omega)).mp w; omega
        rw [if_neg q0, if_neg (by decide), z.f1, drf_s]
        simp (disch := omega) only [z.k1, z.l1, grd_t, grd_true, inr_eq, clamp, if_neg h5, nI_1]
        exact IH
theorem s_rowIn {n : Nat} {Z : Zt} {a tab : Nat} {g : Mem} {b : Nat → Nat} (hn : 40 ≤ n) (hb : BOk b) (hZ : SZ Z a) (hS : StIs g a b) (htab : tab < 4) : f_X8_hasRowIn n Z a (nI tab) g = some (if hasR b tab then 1 else 0, g) := by
  unfold f_X8_hasRowIn
  rw [grd_t hZ.1.k]
  exact s_rowIn2 hb hZ hS htab 16 0 n (by omega) (by omega) (by omega) fun s hs => absurd hs (Nat.not_lt_zero _)
def occ (b : Nat → Nat) (tab : Nat) : Bool := hasC (fun k => b (85 + k)) (b 84) (65 + tab)
theorem s_names {n : Nat} {Z : Zt} {a tab : Nat} {g : Mem} {b : Nat → Nat} (hn : 100 ≤ n) (hb : BOk b) (hZ : SZ Z a) (hS : StIs g a b) (htab : tab < 4) : f_X8_queryNames n Z a (nI tab) g = some (if occ b tab then 1 else 0, g) := by
  have h1 := hb.2.2.1
  unfold f_X8_queryNames
  rw [grd_t hZ.1.k, hZ.1.f5, drf_s, show (65 : Int32) + nI tab = nI (65 + tab) from nI_add 65 tab, ch16 (by omega), l_contains (by omega) hZ.2 (by omega) h1 hS.2.2.2.2 (fun k hk => hb.chr hk) (by omega), bnd_s, grd_t (isz_01 _)]
  rfl

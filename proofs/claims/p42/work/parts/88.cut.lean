/-! smallestCut -/
/-! the tag sets of a polynomial -/
theorem ts_ne {b : Nat → Nat} {D : Nat} {x : Int64} (h : TG b D x) : tsN x ≠ 0 := by
  intro z
  have h0 : ∀ t, t < 16 → ex x t = 0 := fun t ht => by
    have h1 := tsN_bit (x := x) ht
    rw [z, Nat.zero_testBit] at h1
    by_cases q : ex x t = 0
    · exact q
    · simp [sB, q] at h1
  have h1 : ∀ k, k ≤ 16 → sumE x k = 0 := fun k => by
    induction k with
    | zero => intro _; rfl
    | succ k ih => intro hk; unfold sumE; rw [ih (by omega), h0 k (by omega)]
  have := h1 16 (Nat.le_refl _)
  have := h.2.2
  omega
def tsA (ys : Pol) (j : Nat) : Nat := tsN (ys.getD j (0, 0)).1
theorem tsA_lt (ys : Pol) (j : Nat) : tsA ys j < 65536 := tsN_lt _
theorem tsA_app {A : Pol} {x : Int64 × Int64} {i : Nat} (h : i < A.length + 1) : tsA (A ++ [x]) i = if i < A.length then tsA A i else tsN x.1 := by
  unfold tsA
  by_cases q : i < A.length
  · rw [if_pos q, List.getD_eq_getElem?_getD, List.getD_eq_getElem?_getD, List.getElem?_append_left q]
  · rw [if_neg q, List.getD_eq_getElem?_getD, List.getElem?_append_right (by omega), show i - A.length = 0 by omega]; rfl
theorem tsA_take {ys : Pol} {j i : Nat} (h : i < j) (hj : j ≤ ys.length) : tsA (ys.take j) i = tsA ys i := by
  unfold tsA
  rw [List.getD_eq_getElem?_getD, List.getD_eq_getElem?_getD, List.getElem?_take_of_lt h]
def TsIs (g : Mem) (a : Nat) (ys : Pol) : Prop := gI g a 3 = nI ys.length ∧ ys.length ≤ 32 ∧ ∀ j, j < ys.length → gI g (a + 1) j = nI (tsA ys j)
def MsIs (g : Mem) (m : Nat) (ys : Pol) : Prop := gI g m 29 = nI ys.length ∧ ys.length ≤ 32 ∧ ∀ j, j < ys.length → gI g (m + 19) j = nI (tsA ys j)
def pSt (m b j : Nat) : Prop := (b = m ∧ j = 29) ∨ b = m + 19
section SETS
variable {n : Nat} {Z : Zt}
theorem setTo_l15 {a s : Nat} {ys : Pol} (hn : 40 ≤ n) (hZ : TZ Z a) (hZs : PZ Z s) (hd : s + 3 ≤ a) : ∀ (d j fu : Nat) (g : Mem), d = ys.length - j → j ≤ ys.length → d < fu → PIs g s ys → gI g a 3 = nI ys.length → (∀ i, i < j → gI g (a + 1) i = nI (tsA ys i)) → ∃ g', f_X9_setTo_l15 n Z a fu s (nI j) g = some ((), g') ∧ TsIs g' a ys ∧ Fr a (a + 2) g g' := by
  intro d
  induction d with
  | zero =>
    intro j fu g h1 h2 h3 h4 h5 h6
    obtain ⟨fu, rfl⟩ : ∃ q, fu = q + 1 := ⟨fu - 1, by omega⟩
    have hj : j = ys.length := by omega
    subst hj
    have h32 := h4.2.1
    refine ⟨g, ?_, ⟨h5, h32, h6⟩, Fr.rfl⟩
    unfold f_X9_setTo_l15
    rw [h5, if_pos ((nle (by omega) (by omega)).mpr (Nat.le_refl _))]
  | succ d ih =>
    intro j fu g h1 h2 h3 h4 h5 h6
    obtain ⟨fu, rfl⟩ : ∃ q, fu = q + 1 := ⟨fu - 1, by omega⟩
    have h32 := h4.2.1
    have hj : j < ys.length := by omega
    have hF : Fr a (a + 2) g (sI g (a + 1) j (nI (tsA ys j))) := Fr.sI Fr.rfl (by omega) (by omega)
    obtain ⟨g', e1, e2, e3⟩ := ih (j + 1) fu (sI g (a + 1) j (nI (tsA ys j))) (by omega) (by omega) (by omega) (h4.fr hF (by omega)) (by rw [gI_sI, if_neg (by omega)]; exact h5) (fun i hi => by
      rw [gI_sI]
      by_cases q : i = j
      · subst q; rw [if_pos ⟨rfl, rfl⟩]
      · rw [if_neg (by omega)]; exact h6 i (by omega))
    refine ⟨g', ?_, e2, hF.trans e3⟩
    unfold f_X9_setTo_l15
    rw [h5, if_neg (ge_n (by omega) hj), if_neg (show ¬ (32 : Int32) ≤ nI j from ge_n (N := 32) (by omega) (by omega)), hZ.f0, drf_s, p_mono hZs h4 hj, bnd_s, c_tagSet hn, bnd_s, grd_t hZ.k0, hZ.l0, grd_t (by rw [inr_eq (by omega)]; omega), clamp (by omega), nI_1]
    exact e1
theorem c_setTo {a s : Nat} {ys : Pol} {g : Mem} (hn : 40 ≤ n) (hZ : TZ Z a) (hZs : PZ Z s) (hd : s + 3 ≤ a) (h : PIs g s ys) : ∃ g', f_X9_setTo n Z a s g = some ((), g') ∧ TsIs g' a ys ∧ Fr a (a + 2) g g' := by
  have h32 := h.2.1
  have hF : Fr a (a + 2) g (sI g a 3 (nI ys.length)) := Fr.sI Fr.rfl (by omega) (by omega)
  obtain ⟨g', e1, e2, e3⟩ := setTo_l15 (n := n) hn hZ hZs hd ys.length 0 n (sI g a 3 (nI ys.length)) (by omega) (Nat.zero_le _) (by omega) (h.fr hF (by omega)) (by rw [gI_sI, if_pos ⟨rfl, rfl⟩]) (fun i hi => absurd hi (Nat.not_lt_zero _))
  refine ⟨g', ?_, e2, hF.trans e3⟩
  unfold f_X9_setTo
  rw [grd_t hZ.k, p_size hZs h, bnd_s, if_neg (fun z => by have := (nlt (a := 32) (by omega) (by omega)).mp z; omega)]
  exact e1
end SETS
/-! masks: how many bits, subsets -/
theorem sub_mod {M s : Nat} (h : M &&& s = M) : M % 2 ≤ s % 2 ∧ M / 2 &&& s / 2 = M / 2 := by
  have h1 : (M &&& s) / 2 = M / 2 &&& s / 2 := Nat.and_div_two
  have h2 : (M &&& s) % 2 = 1 ↔ M % 2 = 1 ∧ s % 2 = 1 := Nat.and_mod_two_eq_one
  rw [h] at h1 h2
  refine ⟨?_, h1.symm⟩
  by_cases q : M % 2 = 1
  · have := (h2.mp q).2; omega
  · omega
theorem pc_sub : ∀ (d M s : Nat), M &&& s = M → pc d M ≤ pc d s ∧ (M < 2 ^ d → s < 2 ^ d → pc d M = pc d s → M = s)
  | 0, M, s, _ => ⟨Nat.le_refl _, fun h1 h2 _ => by have h1 : M < 1 := h1; have h2 : s < 1 := h2; omega⟩
  | d + 1, M, s, h => by
    obtain ⟨h1, h2⟩ := sub_mod h
    obtain ⟨i1, i2⟩ := pc_sub d (M / 2) (s / 2) h2
    refine ⟨by rw [pc, pc]; omega, fun a1 a2 a3 => ?_⟩
    rw [pc, pc] at a3
    rw [Nat.pow_succ] at a1 a2
    have := i2 (by omega) (by omega) (by omega)
    omega
theorem pc_or : ∀ (d M i : Nat), i < d → M.testBit i = false → pc d (M ||| 2 ^ i) = pc d M + 1
  | 0, _, _, h, _ => absurd h (Nat.not_lt_zero _)
  | d + 1, M, 0, _, hb => by
    have e1 : (M ||| 2 ^ 0) % 2 = 1 := Nat.or_mod_two_eq_one.mpr (Or.inr rfl)
    have e2 : (M ||| 2 ^ 0) / 2 = M / 2 := by rw [Nat.or_div_two]; exact Nat.or_zero _
    have e3 : M % 2 = 0 := by
      rw [Nat.testBit_zero] at hb
      have := of_decide_eq_false hb
      omega
    rw [pc, pc, e1, e2, e3]; omega
  | d + 1, M, i + 1, h, hb => by
    have e0 : 2 ^ (i + 1) % 2 = 0 := by rw [Nat.pow_succ]; omega
    have e1 : (M ||| 2 ^ (i + 1)) % 2 = M % 2 := by
      have h2 : (M ||| 2 ^ (i + 1)) % 2 = 1 ↔ M % 2 = 1 ∨ 2 ^ (i + 1) % 2 = 1 := Nat.or_mod_two_eq_one
      by_cases q : M % 2 = 1
      · rw [h2.mpr (Or.inl q), q]
      · have : ¬ (M ||| 2 ^ (i + 1)) % 2 = 1 := fun z => by
          rcases h2.mp z with w | w <;> omega
        omega
    have e2 : (M ||| 2 ^ (i + 1)) / 2 = M / 2 ||| 2 ^ i := by
      rw [Nat.or_div_two, show 2 ^ (i + 1) / 2 = 2 ^ i by rw [Nat.pow_succ]; omega]
    rw [Nat.testBit_succ] at hb
    rw [pc, pc, e1, e2, pc_or d (M / 2) i (by omega) hb]; omega
theorem bit_of {T : Nat} (h : T ≠ 0) (hT : T < 65536) : ∃ i, i < 16 ∧ T.testBit i = true := by
  obtain ⟨i, hi⟩ := Nat.exists_testBit_of_ne_zero h
  refine ⟨i, ?_, hi⟩
  by_cases q : i < 16
  · exact q
  · have h1 : T < 2 ^ i := Nat.lt_of_lt_of_le hT (Nat.pow_le_pow_right (n := 2) (i := 16) (by omega) (by omega))
    rw [Nat.testBit_lt_two_pow h1] at hi; cases hi
theorem and_bit {T M i : Nat} (h : T &&& M = 0) (hi : T.testBit i = true) : M.testBit i = false := by
  have h1 : (T &&& M).testBit i = false := by rw [h, Nat.zero_testBit]
  rw [Nat.testBit_and, hi] at h1
  simpa using h1
theorem sub_or {M s i : Nat} (h : M &&& s = M) (hi : s.testBit i = true) : (M ||| 2 ^ i) &&& s = M ||| 2 ^ i := by
  apply Nat.eq_of_testBit_eq
  intro k
  have hk : (M &&& s).testBit k = M.testBit k := by rw [h]
  rw [Nat.testBit_and] at hk
  rw [Nat.testBit_and, Nat.testBit_or, Nat.testBit_two_pow]
  by_cases q : i = k
  · subst q; simp [hi]
  · simp [q]; simpa using hk
def key (x : Nat) : Nat := pc 16 x * 65536 + x
theorem key_inj {x y : Nat} (hx : x < 65536) (hy : y < 65536) (h1 : key x ≤ key y) (h2 : key y ≤ key x) : x = y := by
  unfold key at h1 h2
  generalize pc 16 x = a at h1 h2
  generalize pc 16 y = b at h1 h2
  have e : a = b := by
    rcases Nat.lt_trichotomy a b with q | q | q
    · have := Nat.mul_le_mul_right 65536 (show a + 1 ≤ b by omega); omega
    · exact q
    · have := Nat.mul_le_mul_right 65536 (show b + 1 ≤ a by omega); omega
  subst e; omega
theorem key_sub {M s : Nat} (h : M &&& s = M) : key M ≤ key s := by
  have h1 := (pc_sub 16 M s h).1
  have h2 : M ≤ s := by rw [← h]; exact Nat.and_le_right
  unfold key
  exact Nat.add_le_add (Nat.mul_le_mul_right 65536 h1) h2
def hit (ys : Pol) (M : Nat) : Prop := ∀ j, j < ys.length → tsA ys j &&& M ≠ 0

/-! MONOMIALS: sixteen exponents of four bits, the tag 0 highest -/
def ex (x : Int64) (t : Nat) : Nat := uN x / 2 ^ (4 * (15 - t)) % 16
theorem ex_lt (x : Int64) (t : Nat) : ex x t < 16 := Nat.mod_lt _ (by omega)
theorem ex_bit (x : Int64) (t i : Nat) : (ex x t).testBit i = (decide (i < 4) && (uN x).testBit (4 * (15 - t) + i)) := by
  unfold ex
  rw [show (16 : Nat) = 2 ^ 4 from rfl, Nat.testBit_mod_two_pow, Nat.testBit_div_two_pow, Nat.add_comm]
theorem ex_ext {x y : Int64} (h : ∀ t, t < 16 → ex x t = ex y t) : x = y := by
  apply uN_inj
  apply Nat.eq_of_testBit_eq
  intro i
  by_cases hi : i < 64
  · have h1 := congrArg (fun q => q.testBit (i % 4)) (h (15 - i / 4) (by omega))
    rw [ex_bit, ex_bit, show 4 * (15 - (15 - i / 4)) + i % 4 = i by omega] at h1
    simpa [show i % 4 < 4 by omega] using h1
  · have h1 : uN x < 2 ^ i := Nat.lt_of_lt_of_le (uN_lt x) (Nat.pow_le_pow_right (by omega) (by omega))
    have h2 : uN y < 2 ^ i := Nat.lt_of_lt_of_le (uN_lt y) (Nat.pow_le_pow_right (by omega) (by omega))
    rw [Nat.testBit_lt_two_pow h1, Nat.testBit_lt_two_pow h2]
theorem uN_and (x y : Int64) : uN (x &&& y) = uN x &&& uN y := by unfold uN; rw [Int64.toBitVec_and, BitVec.toNat_and]
theorem uN_or (x y : Int64) : uN (x ||| y) = uN x ||| uN y := by unfold uN; rw [Int64.toBitVec_or, BitVec.toNat_or]
theorem ex_and (x y : Int64) (t : Nat) : ex (x &&& y) t = ex x t &&& ex y t := by
  apply Nat.eq_of_testBit_eq
  intro i
  rw [Nat.testBit_and, ex_bit, ex_bit, ex_bit, uN_and, Nat.testBit_and]
  cases decide (i < 4) <;> simp
theorem ex_or (x y : Int64) (t : Nat) : ex (x ||| y) t = ex x t ||| ex y t := by
  apply Nat.eq_of_testBit_eq
  intro i
  rw [Nat.testBit_or, ex_bit, ex_bit, ex_bit, uN_or, Nat.testBit_or]
  cases decide (i < 4) <;> simp
theorem ex_zero (t : Nat) : ex 0 t = 0 := by unfold ex; rw [show uN 0 = 0 from rfl, Nat.zero_div]
theorem ex_eq0 {x : Int64} : x = 0 ↔ ∀ t, t < 16 → ex x t = 0 := ⟨fun h t _ => by rw [h, ex_zero], fun h => ex_ext fun t ht => by rw [h t ht, ex_zero]⟩
/-! both programs read an exponent -/
theorem toI32 (y : Int64) : y.toInt32.toBitVec.toNat % 16 = uN y % 16 := by
  rw [Int64.toBitVec_toInt32, BitVec.signExtend_eq_setWidth_of_le _ (by omega), BitVec.toNat_setWidth]
  show uN y % 2 ^ 32 % 16 = _
  omega
theorem c_power {n : Nat} {Z : Zt} {x : Int64} {t : Nat} {g : Mem} (ht : t < 16) : f_X4_power n Z x (nI t) g = some (nI (ex x t), g) := by
  have hS : (((((60 : Int32) - ((4 : Int32) * nI t)).toInt64.toUInt64 &&& Int64.toUInt64 63)).toBitVec % 64).toNat = 4 * (15 - t) := by
    have H : ∀ q : Fin 16, (((((60 : Int32) - ((4 : Int32) * nI q.1)).toInt64.toUInt64 &&& Int64.toUInt64 63)).toBitVec % 64).toNat = 4 * (15 - q.1) := by decide +kernel
    exact H ⟨t, ht⟩
  unfold f_X4_power
  rw [pk_and _ 4 (by decide), show 2 ^ 4 = 16 from rfl, toI32]
  have e : uN ((x.toUInt64 >>> (((60 : Int32) - ((4 : Int32) * nI t)).toInt64.toUInt64 &&& Int64.toUInt64 63)).toInt64) = uN x / 2 ^ (4 * (15 - t)) := by
    show ((x.toUInt64 >>> (((60 : Int32) - ((4 : Int32) * nI t)).toInt64.toUInt64 &&& Int64.toUInt64 63)).toBitVec).toNat = _
    rw [UInt64.toBitVec_shiftRight, BitVec.ushiftRight_eq', hS, BitVec.toNat_ushiftRight, Nat.shiftRight_eq_div_pow]
    rfl
  rw [e]
  rfl
/-- the tags of a monomial -/
def sB (x : Int64) : Nat → Bool := fun t => decide (ex x t ≠ 0)
def tsN (x : Int64) : Nat := mk (sB x) 16
theorem tsN_lt (x : Int64) : tsN x < 65536 := mk_lt _ 16
theorem tsN_bit {x : Int64} {t : Nat} (ht : t < 16) : (tsN x).testBit t = sB x t := (bm_mk (sB x)).2 t ht
theorem tagSet_l4 {n : Nat} {Z : Zt} {x : Int64} {g : Mem} : ∀ (d k fu : Nat), d = 16 - k → k ≤ 16 → d < fu → f_X4_tagSet_l4 n Z fu x (nI (mk (sB x) k)) (nI k) g = some (nI (tsN x), g) := by
  intro d
  induction d with
  | zero =>
    intro k fu h1 h2 h3
    obtain ⟨fu, rfl⟩ : ∃ q, fu = q + 1 := ⟨fu - 1, by omega⟩
    have hk : k = 16 := by omega
    subst hk
    unfold f_X4_tagSet_l4
    rw [if_pos (show (16 : Int32) ≤ nI 16 by decide)]; rfl
  | succ d ih =>
    intro k fu h1 h2 h3
    obtain ⟨fu, rfl⟩ : ∃ q, fu = q + 1 := ⟨fu - 1, by omega⟩
    have hk : k < 16 := by omega
    have he := ex_lt x k
    have IH := ih (k + 1) fu (by omega) (by omega) (by omega)
    have OR := or_mk (p := sB x) hk
    unfold f_X4_tagSet_l4
    rw [if_neg (show ¬ (16 : Int32) ≤ nI k from ge_n (N := 16) (by omega) hk), c_power hk, bnd_s]
    by_cases q : ex x k = 0
    · have hf : sB x k = false := by simp [sB, q]
      have e2 : mk (sB x) (k + 1) = mk (sB x) k := by rw [mk, hf]; simp
      rw [q, if_pos (show nI 0 ≤ (0 : Int32) by decide), nI_1, ← e2]
      exact IH
    · have hf : sB x k = true := by simp [sB, q]
      rw [hf, if_pos rfl] at OR
      rw [if_neg (nI_nle (by omega) (by omega)), OR, nI_1]
      exact IH
theorem c_tagSet {n : Nat} {Z : Zt} {x : Int64} {g : Mem} (hn : 40 ≤ n) : f_X4_tagSet n Z x g = some (nI (tsN x), g) := by
  unfold f_X4_tagSet
  exact tagSet_l4 16 0 n (by omega) (by omega) (by omega)
/-! masks over monomials -/
def isMask (W : Int64) (p : Nat → Bool) : Prop := ∀ t, t < 16 → ex W t = if p t then 15 else 0
theorem ex_15 : ∀ k t : Fin 16, ex ((15 : Int64) <<< (((60 : Int32) - ((4 : Int32) * nI k.1)).toInt64 &&& 63)) t.1 = if t.1 = k.1 then 15 else 0 := by decide +kernel
theorem maskOf_l4 {n : Nat} {Z : Zt} {M : Nat} {p : Nat → Bool} {g : Mem} (hM : BM M p) : ∀ (d k fu : Nat) (x : Int64), d = 16 - k → k ≤ 16 → d < fu → isMask x (fun t => decide (t < k) && p t) → ∃ W, f_X4_maskOf_l4 n Z fu (nI M) x (nI k) g = some (W, g) ∧ isMask W p := by
  intro d
  induction d with
  | zero =>
    intro k fu x h1 h2 h3 h4
    obtain ⟨fu, rfl⟩ : ∃ q, fu = q + 1 := ⟨fu - 1, by omega⟩
    have hk : k = 16 := by omega
    subst hk
    refine ⟨x, ?_, fun t ht => by rw [h4 t ht]; simp [ht]⟩
    unfold f_X4_maskOf_l4
    rw [if_pos (show (16 : Int32) ≤ nI 16 by decide)]
  | succ d ih =>
    intro k fu x h1 h2 h3 h4
    obtain ⟨fu, rfl⟩ : ∃ q, fu = q + 1 := ⟨fu - 1, by omega⟩
    have hk : k < 16 := by omega
    unfold f_X4_maskOf_l4
    rw [if_neg (show ¬ (16 : Int32) ≤ nI k from ge_n (N := 16) (by omega) hk), hM.bit hk, nI_1]
    by_cases q : p k = true
    · rw [if_pos q, if_neg i10]
      refine ih (k + 1) fu _ (by omega) (by omega) (by omega) fun t ht => ?_
      have e := ex_15 ⟨k, hk⟩ ⟨t, ht⟩
      rw [ex_or, h4 t ht, e]
      dsimp only
      by_cases z : t = k
      · subst z; simp [q]
      · have : (t < k + 1) = (t < k) := propext (by omega)
        simp only [this, if_neg z, Nat.or_zero]
    · rw [if_neg q, if_pos rfl]
      refine ih (k + 1) fu _ (by omega) (by omega) (by omega) fun t ht => ?_
      rw [h4 t ht]
      dsimp only
      by_cases z : t = k
      · subst z; simp [q]
      · have : (t < k + 1) = (t < k) := propext (by omega)
        simp only [this]
theorem c_maskOf {n : Nat} {Z : Zt} {M : Nat} {p : Nat → Bool} {g : Mem} (hn : 40 ≤ n) (hM : BM M p) : ∃ W, f_X4_maskOf n Z (nI M) g = some (W, g) ∧ isMask W p := by
  unfold f_X4_maskOf
  exact maskOf_l4 hM 16 0 n 0 (by omega) (by omega) (by omega) fun t ht => by rw [ex_zero]; simp
/-- no tag of the monomial is in a set -/
def avl (p : Nat → Bool) (x : Int64) : Bool := (List.range 16).all fun t => !(p t) || ex x t == 0
theorem avl_iff {p : Nat → Bool} {x : Int64} : avl p x = true ↔ ∀ t, t < 16 → p t = true → ex x t = 0 := by
  unfold avl
  simp only [List.all_eq_true, List.mem_range, Bool.or_eq_true, Bool.not_eq_true', beq_iff_eq]
  constructor
  · intro h t ht hp
    rcases h t ht with z | z
    · rw [hp] at z; cases z
    · exact z
  · intro h t ht
    by_cases q : p t = true
    · exact Or.inr (h t ht q)
    · exact Or.inl (by simpa using q)
theorem mask_avl {W x : Int64} {p : Nat → Bool} (h : isMask W p) : x &&& W = 0 ↔ avl p x = true := by
  rw [ex_eq0, avl_iff]
  constructor
  · intro q t ht hp
    have := q t ht
    rw [ex_and, h t ht, if_pos hp, show (15 : Nat) = 2 ^ 4 - 1 from rfl, Nat.and_two_pow_sub_one_eq_mod, Nat.mod_eq_of_lt (ex_lt x t)] at this
    exact this
  · intro q t ht
    rw [ex_and, h t ht]
    by_cases hp : p t = true
    · rw [q t ht hp, Nat.zero_and]
    · rw [if_neg hp, Nat.and_zero]
theorem set_avl {x : Int64} {M : Nat} {p : Nat → Bool} (h : BM M p) : tsN x &&& M = 0 ↔ avl p x = true := by
  rw [avl_iff]
  constructor
  · intro q t ht hp
    have := congrArg (fun z => z.testBit t) q
    rw [Nat.testBit_and, tsN_bit ht, h.2 t ht, hp, Nat.zero_testBit] at this
    simpa [sB] using this
  · intro q
    apply Nat.eq_of_testBit_eq
    intro t
    rw [Nat.testBit_and, Nat.zero_testBit]
    by_cases ht : t < 16
    · rw [tsN_bit ht, h.2 t ht]
      by_cases hp : p t = true
      · simp [sB, q t ht hp]
      · simp [hp]
    · have h1 : M < 2 ^ t := Nat.lt_of_lt_of_le h.1 (Nat.pow_le_pow_right (n := 2) (i := 16) (by omega) (by omega))
      rw [Nat.testBit_lt_two_pow h1]; simp
/-! exponents add up, where there is room -/
theorem dig_add {a b : Nat} : ∀ j, (∀ i, i < j → a / 16 ^ i % 16 + b / 16 ^ i % 16 < 16) → a % 16 ^ j + b % 16 ^ j < 16 ^ j
  | 0, _ => by simp [Nat.mod_one]
  | j + 1, h => by
    have ih := dig_add (a := a) (b := b) j fun i hi => h i (by omega)
    have hj := h j (by omega)
    rw [Nat.pow_succ, Nat.mod_mul, Nat.mod_mul]
    have : 16 ^ j * (a / 16 ^ j % 16) + 16 ^ j * (b / 16 ^ j % 16) ≤ 16 ^ j * 15 := by
      rw [← Nat.mul_add]; exact Nat.mul_le_mul_left _ (by omega)
    omega
theorem p416 (j : Nat) : 2 ^ (4 * j) = 16 ^ j := by rw [Nat.pow_mul]
theorem ex_add {x y : Int64} (h : ∀ t, t < 16 → ex x t + ex y t < 16) : ∀ t, t < 16 → ex (x + y) t = ex x t + ex y t := by
  have hd : ∀ i, i < 16 → uN x / 16 ^ i % 16 + uN y / 16 ^ i % 16 < 16 := fun i hi => by
    have := h (15 - i) (by omega)
    unfold ex at this
    rw [show 15 - (15 - i) = i by omega, p416] at this
    exact this
  have hs : uN (x + y) = uN x + uN y := by
    have h16 := dig_add 16 hd
    have hx := uN_lt x
    have hy := uN_lt y
    rw [show 16 ^ 16 = 2 ^ 64 from rfl, Nat.mod_eq_of_lt hx, Nat.mod_eq_of_lt hy] at h16
    unfold uN at *
    rw [Int64.toBitVec_add, BitVec.toNat_add, Nat.mod_eq_of_lt h16]
  intro t ht
  have hlo := dig_add (15 - t) fun i hi => hd i (by omega)
  have hdt := h t ht
  unfold ex at *
  rw [hs, p416]
  rw [p416] at hdt
  have hp : 0 < 16 ^ (15 - t) := Nat.pow_pos (by omega)
  have e : (uN x + uN y) / 16 ^ (15 - t) = uN x / 16 ^ (15 - t) + uN y / 16 ^ (15 - t) := by
    have e1 := Nat.div_add_mod (uN x) (16 ^ (15 - t))
    have e2 := Nat.div_add_mod (uN y) (16 ^ (15 - t))
    have e3 : uN x + uN y = (uN x % 16 ^ (15 - t) + uN y % 16 ^ (15 - t)) + 16 ^ (15 - t) * (uN x / 16 ^ (15 - t) + uN y / 16 ^ (15 - t)) := by
      rw [Nat.mul_add]; omega
    rw [e3, Nat.add_mul_div_left _ _ hp, Nat.div_eq_of_lt hlo, Nat.zero_add]
  rw [e]; omega
theorem ex_tag : ∀ k t : Fin 16, ex (tagM k.1) t.1 = if t.1 = k.1 then 1 else 0 := by decide +kernel
/-! without powers -/
def flt (x : Int64) : Int64 := (((x ||| ((x.toUInt64 >>> ((1 : Int32).toInt64.toUInt64 &&& Int64.toUInt64 63)).toInt64)) ||| ((x.toUInt64 >>> ((2 : Int32).toInt64.toUInt64 &&& Int64.toUInt64 63)).toInt64)) ||| ((x.toUInt64 >>> ((3 : Int32).toInt64.toUInt64 &&& Int64.toUInt64 63)).toInt64)) &&& (1229782938247303441 : Int64)
theorem c_flat {n : Nat} {Z : Zt} {x : Int64} {g : Mem} : f_X4_withoutPowers n Z x g = some (flt x, g) := rfl
theorem uN_shr (x : Int64) (s : UInt64) : uN ((x.toUInt64 >>> s).toInt64) = uN x / 2 ^ (s.toBitVec % 64).toNat := by
  show ((x.toUInt64 >>> s).toBitVec).toNat = _
  rw [UInt64.toBitVec_shiftRight, BitVec.ushiftRight_eq', BitVec.toNat_ushiftRight, Nat.shiftRight_eq_div_pow]
  rfl
theorem ones_bit : ∀ t i : Fin 16, i.1 < 4 → (uN (1229782938247303441 : Int64)).testBit (4 * (15 - t.1) + i.1) = decide (i.1 = 0) := by decide +kernel
theorem ex_0 (x : Int64) (t : Nat) : ex x t = 0 ↔ ∀ i, i < 4 → (uN x).testBit (4 * (15 - t) + i) = false := by
  constructor
  · intro h i hi
    have := ex_bit x t i
    rw [h, Nat.zero_testBit] at this
    simpa [hi] using this.symm
  · intro h
    apply Nat.eq_of_testBit_eq
    intro i
    rw [ex_bit, Nat.zero_testBit]
    by_cases hi : i < 4
    · rw [h i hi]; simp
    · simp [hi]
theorem ex_flt {x : Int64} {t : Nat} (ht : t < 16) : ex (flt x) t = if ex x t = 0 then 0 else 1 := by
  have hb : ∀ i, i < 4 → (uN (flt x)).testBit (4 * (15 - t) + i) = (decide (i = 0) && ((uN x).testBit (4 * (15 - t) + i) || (uN x).testBit (4 * (15 - t) + i + 1) || (uN x).testBit (4 * (15 - t) + i + 2) || (uN x).testBit (4 * (15 - t) + i + 3))) := fun i hi => by
    unfold flt
    rw [uN_and, Nat.testBit_and, ones_bit ⟨t, ht⟩ ⟨i, by omega⟩ hi, uN_or, uN_or, uN_or, Nat.testBit_or, Nat.testBit_or, Nat.testBit_or, uN_shr, uN_shr, uN_shr]
    rw [show (((1 : Int32).toInt64.toUInt64 &&& Int64.toUInt64 63).toBitVec % 64).toNat = 1 by decide, show (((2 : Int32).toInt64.toUInt64 &&& Int64.toUInt64 63).toBitVec % 64).toNat = 2 by decide, show (((3 : Int32).toInt64.toUInt64 &&& Int64.toUInt64 63).toBitVec % 64).toNat = 3 by decide, Nat.testBit_div_two_pow, Nat.testBit_div_two_pow, Nat.testBit_div_two_pow, Bool.and_comm]
  apply Nat.eq_of_testBit_eq
  intro i
  rw [ex_bit]
  by_cases hi : i < 4
  · rw [hb i hi]
    by_cases h0 : i = 0
    · subst h0
      by_cases q : ex x t = 0
      · have hq := (ex_0 x t).mp q
        rw [if_pos q, Nat.zero_testBit]
        have a0 := hq 0 (by omega)
        have a1 := hq 1 (by omega)
        have a2 := hq 2 (by omega)
        have a3 := hq 3 (by omega)
        simp only [Nat.add_zero] at a0 ⊢
        rw [a0, a1, a2, a3]; simp
      · rw [if_neg q]
        have : ¬ ∀ i, i < 4 → (uN x).testBit (4 * (15 - t) + i) = false := fun z => q ((ex_0 x t).mpr z)
        have hor : ((uN x).testBit (4 * (15 - t)) || (uN x).testBit (4 * (15 - t) + 1) || (uN x).testBit (4 * (15 - t) + 2) || (uN x).testBit (4 * (15 - t) + 3)) = true := by
          apply Decidable.byContradiction
          intro z
          apply this
          simp only [Bool.or_eq_true, not_or, Bool.not_eq_true] at z
          intro i hi
          have : i = 0 ∨ i = 1 ∨ i = 2 ∨ i = 3 := by omega
          rcases this with y | y | y | y <;> subst y
          · exact z.1.1.1
          · exact z.1.1.2
          · exact z.1.2
          · exact z.2
        simp only [Nat.add_zero]
        rw [hor]; simp
    · have : ∀ z : Nat, z < 2 → z.testBit i = false := fun z hz => by
        apply Nat.testBit_lt_two_pow
        have : 2 ^ 1 ≤ 2 ^ i := Nat.pow_le_pow_right (by omega) (by omega)
        omega
      rw [this (if ex x t = 0 then 0 else 1) (by split <;> omega)]
      simp [h0]
  · have : ∀ z : Nat, z < 2 → z.testBit i = false := fun z hz => by
      apply Nat.testBit_lt_two_pow
      have : 2 ^ 1 ≤ 2 ^ i := Nat.pow_le_pow_right (by omega) (by omega)
      omega
    rw [this (if ex x t = 0 then 0 else 1) (by split <;> omega)]
    simp [hi]

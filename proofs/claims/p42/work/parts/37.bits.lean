/-! NUMBERS: shifts, masks, digits -/
theorem sh_n {k : Nat} (h : k < 32) : ((nI k &&& 31).toBitVec.smod 32).toNat = k := by
  have H : ∀ q : Fin 32, ((nI q.1 &&& 31).toBitVec.smod 32).toNat = q.1 := by decide +kernel
  exact H ⟨k, h⟩
theorem shr_n {a k : Nat} (ha : a < 2147483648) (h : k < 32) : nI a >>> (nI k &&& 31) = nI (a / 2 ^ k) := pk_shrN ha _ k (sh_n h)
theorem shl_n {a k : Nat} (ha : a * 2 ^ k < 4294967296) (h : k < 32) : nI a <<< (nI k &&& 31) = nI (a * 2 ^ k) := pk_shlN _ k (sh_n h) ha
theorem and_n {a b : Nat} (ha : a < 4294967296) (hb : b < 4294967296) : nI a &&& nI b = nI (a &&& b) := by
  apply Int32.toBitVec_inj.mp
  apply BitVec.eq_of_toNat_eq
  have := Nat.and_le_left (n := a) (m := b)
  rw [Int32.toBitVec_and, BitVec.toNat_and, pk_tn ha, pk_tn hb, pk_tn (by omega)]
theorem or_n {a b : Nat} (ha : a < 4294967296) (hb : b < 4294967296) : nI a ||| nI b = nI (a ||| b) := by
  apply Int32.toBitVec_inj.mp
  apply BitVec.eq_of_toNat_eq
  have : a ||| b < 2 ^ 32 := Nat.or_lt_two_pow ha hb
  rw [Int32.toBitVec_or, BitVec.toNat_or, pk_tn ha, pk_tn hb, pk_tn this]
theorem and15 {a : Nat} (ha : a < 4294967296) : nI a &&& 15 = nI (a % 16) := pk_andN ha 4 (by decide)
theorem and1 {a : Nat} (ha : a < 4294967296) : nI a &&& 1 = nI (a % 2) := pk_andN ha 1 (by decide)
theorem and3 {a : Nat} (ha : a < 4294967296) : nI a &&& 3 = nI (a % 4) := pk_andN ha 2 (by decide)
/-- the bit t of a mask -/
theorem bit_n {M t : Nat} (hM : M < 2147483648) (ht : t < 32) : (nI M >>> (nI t &&& 31)) &&& 1 = nI (M / 2 ^ t % 2) := by
  have := Nat.div_le_self M (2 ^ t)
  rw [shr_n hM ht, and1 (by omega)]
theorem bit_tb (M t : Nat) : M.testBit t = decide (M / 2 ^ t % 2 = 1) := Nat.testBit_eq_decide_div_mod_eq
/-! decimal keys, packed with four bits for each digit -/
def pk (v : Nat) : Nat := v % 10 + 16 * (v / 10 % 10) + 256 * (v / 100 % 10) + 4096 * (v / 1000 % 10)
theorem pk_bound (v : Nat) : pk v < 65536 := by unfold pk; omega
theorem pk_digs (v : Nat) : ∃ a b c d q, a < 10 ∧ b < 10 ∧ c < 10 ∧ d < 10 ∧ v = a + 10 * b + 100 * c + 1000 * d + 10000 * q ∧ pk v = a + 16 * b + 256 * c + 4096 * d ∧ v / 10 % 10 = b ∧ v / 100 % 10 = c ∧ v / 1000 % 10 = d := by
  refine ⟨v % 10, v / 10 % 10, v / 100 % 10, v / 1000 % 10, v / 10000, ?_, ?_, ?_, ?_, ?_, rfl, rfl, rfl, rfl⟩ <;> omega
theorem pk_mono {u v : Nat} (hv : v < 10000) (h : u < v) : pk u < pk v := by
  obtain ⟨a, b, c, d, q, h1, h2, h3, h4, h5, h6, -⟩ := pk_digs u
  obtain ⟨a', b', c', d', q', g1, g2, g3, g4, g5, g6, -⟩ := pk_digs v
  have e1 : q = 0 := by omega
  have e2 : q' = 0 := by omega
  subst e1 e2
  rw [h6, g6]
  rcases Nat.lt_trichotomy d d' with z | z | z
  · omega
  · subst z
    rcases Nat.lt_trichotomy c c' with z | z | z
    · omega
    · subst z
      rcases Nat.lt_trichotomy b b' with z | z | z <;> omega
    · omega
  · omega
theorem pk_lt_iff {u v : Nat} (hu : u < 10000) (hv : v < 10000) : pk u < pk v ↔ u < v := by
  constructor
  · intro h
    rcases Nat.lt_trichotomy u v with q | q | q
    · exact q
    · subst q; omega
    · have := pk_mono hu q; omega
  · exact pk_mono hv
theorem pk_inj {u v : Nat} (hu : u < 10000) (hv : v < 10000) : pk u = pk v ↔ u = v := by
  constructor
  · intro h
    rcases Nat.lt_trichotomy u v with q | q | q
    · have := pk_mono hv q; omega
    · exact q
    · have := pk_mono hu q; omega
  · intro h; rw [h]
/-- a digit: of a key with w columns, in the column c -/
def dg (w v c : Nat) : Nat := v / 10 ^ (w - 1 - c) % 10
theorem dg_lt (w v c : Nat) : dg w v c < 10 := Nat.mod_lt _ (by omega)
theorem pk_dig {v e : Nat} (he : e < 4) : pk v / 2 ^ (4 * e) % 16 = v / 10 ^ e % 10 := by
  have h : e = 0 ∨ e = 1 ∨ e = 2 ∨ e = 3 := by omega
  obtain ⟨a, b, c, d, q, h1, h2, h3, h4, h5, h6, h7, h8, h9⟩ := pk_digs v
  rw [h6]
  have k0 : v % 10 = a := by omega
  have k1 : (a + 16 * b + 256 * c + 4096 * d) % 16 = a := by clear h5 h6 h7 h8 h9 k0; omega
  have k2 : (a + 16 * b + 256 * c + 4096 * d) / 16 % 16 = b := by clear h5 h6 h7 h8 h9 k0; omega
  have k3 : (a + 16 * b + 256 * c + 4096 * d) / 256 % 16 = c := by
    have : (a + 16 * b + 256 * c + 4096 * d) / 256 = c + 16 * d := by clear h5 h6 h7 h8 h9 k0; omega
    rw [this]; clear h5 h6 h7 h8 h9 k0; omega
  have k4 : (a + 16 * b + 256 * c + 4096 * d) / 4096 % 16 = d := by
    have : (a + 16 * b + 256 * c + 4096 * d) / 4096 = d := by clear h5 h6 h7 h8 h9 k0; omega
    rw [this]; clear h5 h6 h7 h8 h9 k0; omega
  rcases h with h | h | h | h <;> subst h <;> simp only [Nat.mul_zero, Nat.reduceMul, Nat.reducePow, Nat.div_one, Nat.mul_one]
  · exact k1.trans k0.symm
  · exact k2.trans h7.symm
  · exact k3.trans h8.symm
  · exact k4.trans h9.symm
theorem key_digit {n : Nat} {Z : Zt} {v w c : Nat} {g : Mem} (hw : w ≤ 4) (hc : c < w) : f_X2_digit n Z (nI (pk v)) (nI w) (nI c) g = some (nI (dg w v c), g) := by
  have h1 := pk_bound v
  unfold f_X2_digit dg
  have e1 : nI w - 1 = nI (w - 1) := subN (b := 1) (by omega)
  have e2 : (4 : Int32) = nI 4 := rfl
  rw [e1, subN (by omega), e2, mIJ, shr_n (by omega) (by omega), and15 (by have := Nat.div_le_self (pk v) (2 ^ (4 * (w - 1 - c))); omega), pk_dig (by omega)]
theorem p10_lt {e : Nat} (he : e < 10) : 0 < 10 ^ e ∧ 10 ^ e < 2147483648 := by
  have H : ∀ q : Fin 10, 0 < 10 ^ q.1 ∧ 10 ^ q.1 < 2147483648 := by decide +kernel
  exact H ⟨e, he⟩
theorem add_or {a b k : Nat} (h : b < 2 ^ k) : a * 2 ^ k ||| b = a * 2 ^ k + b := by
  rw [Nat.mul_comm]; exact (Nat.two_pow_add_eq_or_of_lt h a).symm
theorem pk_join {a b w : Nat} (hw : w ≤ 4) (hb : b < 10 ^ w) (ha : a * 10 ^ w + b < 10000) : pk a * 2 ^ (4 * w) + pk b = pk (a * 10 ^ w + b) := by
  have h : w = 0 ∨ w = 1 ∨ w = 2 ∨ w = 3 ∨ w = 4 := by omega
  unfold pk
  rcases h with h | h | h | h | h <;> subst h <;> simp at hb ha ⊢ <;> omega
theorem pk_low {b w : Nat} (hw : w ≤ 4) (hb : b < 10 ^ w) : pk b < 2 ^ (4 * w) := by
  have h : w = 0 ∨ w = 1 ∨ w = 2 ∨ w = 3 ∨ w = 4 := by omega
  unfold pk
  rcases h with h | h | h | h | h <;> subst h <;> simp at hb ⊢ <;> omega
theorem key_join {n : Nat} {Z : Zt} {a b w : Nat} {g : Mem} (hw : w ≤ 4) (hb : b < 10 ^ w) (ha : a * 10 ^ w + b < 10000) : f_X2_join n Z (nI (pk a)) (nI (pk b)) (nI w) g = some (nI (pk (a * 10 ^ w + b)), g) := by
  have h1 := pk_bound a
  have h2 := pk_bound (a * 10 ^ w + b)
  have h3 := pk_join hw hb ha
  have h4 := pk_low hw hb
  have h5 := pk_bound b
  have e2 : (4 : Int32) = nI 4 := rfl
  unfold f_X2_join
  rw [e2, mIJ, shl_n (by omega) (by omega), or_n (by omega) (by omega), add_or h4, h3]
/-- the monomial of a tag alone -/
def tagM (t : Nat) : Int64 := (1 : Int64) <<< (((60 : Int32) - ((4 : Int32) * nI t)).toInt64 &&& 63)
theorem tag_c {n : Nat} {Z : Zt} {t : Nat} {g : Mem} : f_X4_ofTag n Z (nI t) g = some (tagM t, g) := rfl

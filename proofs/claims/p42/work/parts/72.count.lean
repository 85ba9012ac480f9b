/-! COUNTING BITS, DIGITS -/
/-- how many of the first d bits are set -/
def pc : Nat → Nat → Nat
  | 0, _ => 0
  | d + 1, M => M % 2 + pc d (M / 2)
theorem and_app {i a b c d : Nat} (hb : b < 2 ^ i) (hd : d < 2 ^ i) : (2 ^ i * a + b) &&& (2 ^ i * c + d) = 2 ^ i * (a &&& c) + (b &&& d) := by
  have h : b &&& d < 2 ^ i := Nat.lt_of_le_of_lt Nat.and_le_left hb
  apply Nat.eq_of_testBit_eq
  intro k
  rw [Nat.testBit_and, Nat.testBit_two_pow_mul_add a hb, Nat.testBit_two_pow_mul_add c hd, Nat.testBit_two_pow_mul_add _ h]
  by_cases q : k < i
  · rw [if_pos q, if_pos q, if_pos q, Nat.testBit_and]
  · rw [if_neg q, if_neg q, if_neg q, Nat.testBit_and]
theorem kern : ∀ (d M : Nat), M < 2 ^ d → M ≠ 0 → pc d (M &&& (M - 1)) + 1 = pc d M
  | 0, M, h, h0 => absurd (show M = 0 by have : M < 1 := h; omega) h0
  | d + 1, M, h, h0 => by
    have hh : M / 2 < 2 ^ d := by rw [Nat.pow_succ] at h; omega
    by_cases q : M % 2 = 1
    · have e : M &&& (M - 1) = 2 * (M / 2) := by
        have := and_app (i := 1) (a := M / 2) (b := 1) (c := M / 2) (d := 0) (by omega) (by omega)
        rw [Nat.and_self] at this
        have e1 : 2 ^ 1 * (M / 2) + 1 = M := by omega
        have e2 : 2 ^ 1 * (M / 2) + 0 = M - 1 := by omega
        rw [e1, e2] at this
        rw [this]; simp
      rw [e, pc, pc, show 2 * (M / 2) % 2 = 0 by omega, show 2 * (M / 2) / 2 = M / 2 by omega]; omega
    · have hN : M / 2 ≠ 0 := by omega
      have ih := kern d (M / 2) hh hN
      have e : M &&& (M - 1) = 2 * (M / 2 &&& (M / 2 - 1)) := by
        have := and_app (i := 1) (a := M / 2) (b := 0) (c := M / 2 - 1) (d := 1) (by omega) (by omega)
        have e1 : 2 ^ 1 * (M / 2) + 0 = M := by omega
        have e2 : 2 ^ 1 * (M / 2 - 1) + 1 = M - 1 := by omega
        rw [e1, e2] at this
        rw [this]; simp
      rw [e, pc, pc, show 2 * (M / 2 &&& (M / 2 - 1)) % 2 = 0 by omega, show 2 * (M / 2 &&& (M / 2 - 1)) / 2 = M / 2 &&& (M / 2 - 1) by omega, ← ih]; omega
theorem pc_0 : ∀ d, pc d 0 = 0
  | 0 => rfl
  | d + 1 => by rw [pc, Nat.zero_div, pc_0 d]
theorem pc_le : ∀ d M, pc d M ≤ d
  | 0, _ => Nat.le_refl _
  | d + 1, M => by have := pc_le d (M / 2); rw [pc]; omega
def bcA (M : Nat) : Nat := M - (M / 2 &&& 1431655765)
def bcB (M : Nat) : Nat := (bcA M &&& 858993459) + (bcA M / 4 &&& 858993459)
def bcC (M : Nat) : Nat := bcB M + bcB M / 16 &&& 252645135
def bcD (M : Nat) : Nat := bcC M + bcC M / 256
def bcN (M : Nat) : Nat := bcD M + bcD M / 65536 &&& 63
theorem by_a : ∀ x, x < 256 → (x / 2 &&& 5592405) = (x / 2 &&& 85) ∧ (x / 2 + 128 &&& 85) = (x / 2 &&& 85) ∧ (x / 2 &&& 85) ≤ x := by decide +kernel
theorem by_b : ∀ x, x < 256 → (x &&& 3355443) = (x &&& 51) ∧ (x / 4 &&& 3355443) = (x / 4 &&& 51) ∧ (x / 4 + 64 &&& 51) = (x / 4 &&& 51) ∧ (x / 4 + 128 &&& 51) = (x / 4 &&& 51) ∧ (x / 4 + 192 &&& 51) = (x / 4 &&& 51) := by decide +kernel
def ba (x : Nat) : Nat := x - (x / 2 &&& 85)
def bb (x : Nat) : Nat := (ba x &&& 51) + (ba x / 4 &&& 51)
theorem by_c : ∀ x, x < 256 → bb x ≤ 68 ∧ (bb x + bb x / 16) % 16 = pc 8 x ∧ bb x / 16 ≤ 4 ∧ bb x % 16 ≤ 4 := by decide +kernel
theorem by_d : ∀ x, x < 256 → x &&& 986895 = x &&& 15 := by decide +kernel
theorem pc_split : ∀ M, pc 16 M = pc 8 M + pc 8 (M / 256) := fun M => by
  simp only [pc, Nat.div_div_eq_div_mul, Nat.reduceMul]; omega
theorem pc_mod : ∀ M, pc 8 M = pc 8 (M % 256) := fun M => by
  simp only [pc, Nat.div_div_eq_div_mul, Nat.reduceMul]; omega
theorem bcN_pc {M : Nat} (h : M < 65536) : bcN M = pc 16 M ∧ bcB M < 65536 := by
  have hM : 256 * (M / 256) + M % 256 = M := by omega
  have h1 : M / 256 < 256 := by omega
  have h0 : M % 256 < 256 := by omega
  obtain ⟨x, hx⟩ : ∃ x, x = M / 256 := ⟨_, rfl⟩
  obtain ⟨y, hy⟩ : ∃ y, y = M % 256 := ⟨_, rfl⟩
  rw [← hx] at hM h1
  rw [← hy] at hM h0
  obtain ⟨a1, a2, a3⟩ := by_a x h1
  obtain ⟨c1, c2, c3⟩ := by_a y h0
  have eA : bcA M = 256 * ba x + ba y := by
    have e1 : M / 2 = 2 ^ 8 * (x / 2) + (y / 2 + 128 * (x % 2)) := by omega
    have e2 : M / 2 &&& 1431655765 = 256 * (x / 2 &&& 85) + (y / 2 &&& 85) := by
      rw [e1, show (1431655765 : Nat) = 2 ^ 8 * 5592405 + 85 from rfl, and_app (by omega) (by omega), a1]
      have : x % 2 = 0 ∨ x % 2 = 1 := by omega
      rcases this with z | z <;> rw [z]
      · rw [Nat.mul_zero, Nat.add_zero]
      · rw [Nat.mul_one, c2]
    unfold bcA ba
    rw [e2]; omega
  have l1 : ba x < 256 := by unfold ba; omega
  have l0 : ba y < 256 := by unfold ba; omega
  obtain ⟨b1, b2, -⟩ := by_b (ba x) l1
  obtain ⟨d1, d2, d3, d4, d5⟩ := by_b (ba y) l0
  have eB : bcB M = 256 * bb x + bb y := by
    have e1 : bcA M / 4 = 2 ^ 8 * (ba x / 4) + (ba y / 4 + 64 * (ba x % 4)) := by omega
    have e2 : bcA M / 4 &&& 858993459 = 256 * (ba x / 4 &&& 51) + (ba y / 4 &&& 51) := by
      rw [e1, show (858993459 : Nat) = 2 ^ 8 * 3355443 + 51 from rfl, and_app (by omega) (by omega), b2]
      have : ba x % 4 = 0 ∨ ba x % 4 = 1 ∨ ba x % 4 = 2 ∨ ba x % 4 = 3 := by omega
      rcases this with z | z | z | z <;> rw [z]
      · rw [Nat.mul_zero, Nat.add_zero]
      · rw [d3]
      · rw [d4]
      · rw [d5]
    have e3 : bcA M &&& 858993459 = 256 * (ba x &&& 51) + (ba y &&& 51) := by
      rw [eA, show (858993459 : Nat) = 2 ^ 8 * 3355443 + 51 from rfl, show 256 * ba x + ba y = 2 ^ 8 * ba x + ba y from rfl, and_app (by omega) (by omega), b1]
    unfold bcB bb
    rw [e2, e3]; omega
  obtain ⟨f1, f2, f3, f4⟩ := by_c x h1
  obtain ⟨g1, g2, g3, g4⟩ := by_c y h0
  have p1 := pc_le 8 x
  have p0 := pc_le 8 y
  have m15 : ∀ q : Nat, q &&& 15 = q % 16 := fun q => Nat.and_two_pow_sub_one_eq_mod q 4
  have m63 : ∀ q : Nat, q &&& 63 = q % 64 := fun q => Nat.and_two_pow_sub_one_eq_mod q 6
  have eC : bcC M = 256 * pc 8 x + pc 8 y := by
    have e1 : bcB M + bcB M / 16 = 2 ^ 8 * (bb x + bb x / 16) + (bb y + bb y / 16 + 16 * (bb x % 16)) := by omega
    unfold bcC
    rw [e1, show (252645135 : Nat) = 2 ^ 8 * 986895 + 15 from rfl, and_app (by omega) (by omega), by_d _ (by omega), m15, m15]
    omega
  have hpc : pc 16 M = pc 8 y + pc 8 x := by rw [pc_split, pc_mod, ← hx, ← hy]
  refine ⟨?_, by omega⟩
  have eD : bcD M + bcD M / 65536 = 256 * pc 8 x + pc 8 y + pc 8 x := by unfold bcD; omega
  unfold bcN
  rw [eD, m63]; omega
theorem c_bits {n : Nat} {Z : Zt} {g : Mem} {M : Nat} (h : M < 65536) : f_J6_bitCount_0f7a4 n Z (nI M) g = some (nI (pc 16 M), g) := by
  obtain ⟨h2, h3⟩ := bcN_pc h
  have a1 : M / 2 &&& 1431655765 ≤ M / 2 := Nat.and_le_left
  have a2 : bcA M ≤ M := by unfold bcA; omega
  have a3 : bcC M ≤ bcB M + bcB M / 16 := Nat.and_le_left
  have a4 : bcC M < 131072 := by omega
  have e1 : ((nI M).toUInt32 >>> ((1 : Int32).toUInt32 &&& Int32.toUInt32 31)).toInt32 = nI (M / 2) := pk_ushrN (by omega) 1 1 (by decide)
  have e2 : nI M - (nI (M / 2) &&& (1431655765 : Int32)) = nI (bcA M) := by
    rw [show (1431655765 : Int32) = nI 1431655765 from rfl, and_n (by omega) (by omega), subN (by omega)]; rfl
  have e3 : ((nI (bcA M)).toUInt32 >>> ((2 : Int32).toUInt32 &&& Int32.toUInt32 31)).toInt32 = nI (bcA M / 4) := pk_ushrN (by omega) 2 2 (by decide)
  have e4 : (nI (bcA M) &&& (858993459 : Int32)) + (nI (bcA M / 4) &&& (858993459 : Int32)) = nI (bcB M) := by
    rw [show (858993459 : Int32) = nI 858993459 from rfl, and_n (by omega) (by omega), and_n (by omega) (by omega), nI_add]; rfl
  have e5 : ((nI (bcB M)).toUInt32 >>> ((4 : Int32).toUInt32 &&& Int32.toUInt32 31)).toInt32 = nI (bcB M / 16) := pk_ushrN (by omega) 4 4 (by decide)
  have e6 : (nI (bcB M) + nI (bcB M / 16)) &&& (252645135 : Int32) = nI (bcC M) := by
    rw [show (252645135 : Int32) = nI 252645135 from rfl, nI_add, and_n (by omega) (by omega)]; rfl
  have e7 : ((nI (bcC M)).toUInt32 >>> ((8 : Int32).toUInt32 &&& Int32.toUInt32 31)).toInt32 = nI (bcC M / 256) := pk_ushrN (by omega) 8 8 (by decide)
  have e8 : nI (bcC M) + nI (bcC M / 256) = nI (bcD M) := by rw [nI_add]; rfl
  have a5 : bcD M < 262144 := by unfold bcD; omega
  have e9 : ((nI (bcD M)).toUInt32 >>> ((16 : Int32).toUInt32 &&& Int32.toUInt32 31)).toInt32 = nI (bcD M / 65536) := pk_ushrN (by omega) 16 16 (by decide)
  have e10 : (nI (bcD M) + nI (bcD M / 65536)) &&& (63 : Int32) = nI (bcN M) := by
    rw [show (63 : Int32) = nI 63 from rfl, nI_add, and_n (by omega) (by omega)]; rfl
  unfold f_J6_bitCount_0f7a4
  simp only [e1, e2, e3, e4, e5, e6, e7, e8, e9, e10, h2]
/-! digits of a decimal number -/
theorem hmd_l4 {n : Nat} {Z : Zt} {g : Mem} {w v : Nat} (hv : v < 2147483648) (hw : w ≤ 4) : ∀ (d k fu : Nat), d = w - k → k ≤ w → d < fu → f_X2_hasMoreDigits_l4 n Z fu (nI w) (nI (v / 10 ^ k)) (nI k) g = some (if v < 10 ^ w then 0 else 1, g) := by
  intro d
  induction d with
  | zero =>
    intro k fu h1 h2 h3
    obtain ⟨fu, rfl⟩ : ∃ q, fu = q + 1 := ⟨fu - 1, by omega⟩
    have hk : k = w := by omega
    subst hk
    have hle : v / 10 ^ k ≤ v := Nat.div_le_self ..
    unfold f_X2_hasMoreDigits_l4
    rw [if_pos ((nle (by omega) (by omega)).mpr (Nat.le_refl _))]
    by_cases q : v < 10 ^ k
    · rw [Nat.div_eq_of_lt q, if_pos (show nI 0 ≤ (0 : Int32) by decide), if_pos q]
    · have : 0 < v / 10 ^ k := Nat.div_pos (by omega) (Nat.pow_pos (by omega))
      rw [if_neg (nI_nle this (by omega)), if_neg q]
  | succ d ih =>
    intro k fu h1 h2 h3
    obtain ⟨fu, rfl⟩ : ∃ q, fu = q + 1 := ⟨fu - 1, by omega⟩
    have hle : v / 10 ^ k ≤ v := Nat.div_le_self ..
    unfold f_X2_hasMoreDigits_l4
    rw [if_neg (ge_n (by omega) (by omega)), show nI (v / 10 ^ k) / (10 : Int32) = nI (v / 10 ^ k / 10) from pk_div (d := 10) (by omega) (by omega) (by omega), Nat.div_div_eq_div_mul, ← Nat.pow_succ, nI_1]
    exact ih (k + 1) fu (by omega) (by omega) (by omega)
theorem c_more {n : Nat} {Z : Zt} {g : Mem} {w v : Nat} (hn : 40 ≤ n) (hv : v < 2147483648) (hw : w ≤ 4) : f_X2_hasMoreDigits n Z (nI v) (nI w) g = some (if v < 10 ^ w then 0 else 1, g) := by
  unfold f_X2_hasMoreDigits
  have := hmd_l4 (n := n) (Z := Z) (g := g) hv hw w 0 n (by omega) (by omega) (by omega)
  rw [Nat.pow_zero, Nat.div_one] at this
  exact this
theorem ofd_l7 {n : Nat} {Z : Zt} {g : Mem} {w v : Nat} (hv : v < 10 ^ w) (hw : w ≤ 3) : ∀ (d k fu : Nat), d = w - k → k ≤ w → d < fu → f_X2_ofDecimal_l7 n Z fu (nI w) (nI (pk (v % 10 ^ k))) (nI (v / 10 ^ k)) (nI k) g = some (nI (pk v), g) := by
  have hv3 : v < 1000 := Nat.lt_of_lt_of_le hv (show 10 ^ w ≤ 10 ^ 3 from Nat.pow_le_pow_right (by omega) hw)
  intro d
  induction d with
  | zero =>
    intro k fu h1 h2 h3
    obtain ⟨fu, rfl⟩ : ∃ q, fu = q + 1 := ⟨fu - 1, by omega⟩
    have hk : k = w := by omega
    subst hk
    unfold f_X2_ofDecimal_l7
    rw [if_pos ((nle (by omega) (by omega)).mpr (Nat.le_refl _)), Nat.mod_eq_of_lt hv]
  | succ d ih =>
    intro k fu h1 h2 h3
    obtain ⟨fu, rfl⟩ : ∃ q, fu = q + 1 := ⟨fu - 1, by omega⟩
    have hle : v / 10 ^ k ≤ v := Nat.div_le_self ..
    have hk3 : k < 3 := by omega
    have hb := pk_bound (v % 10 ^ k)
    have hpl : pk (v % 10 ^ k) < 2 ^ (4 * k) := pk_low (by omega) (Nat.mod_lt _ (Nat.pow_pos (by omega)))
    have hp2 : 2 ^ (4 * k) ≤ 2 ^ 8 := Nat.pow_le_pow_right (by omega) (by omega)
    have hd10 : v / 10 ^ k % 10 < 10 := Nat.mod_lt _ (by omega)
    have hm : v / 10 ^ k % 10 * 2 ^ (4 * k) ≤ 9 * 2 ^ 8 := Nat.mul_le_mul (by omega) hp2
    unfold f_X2_ofDecimal_l7
    rw [if_neg (ge_n (by omega) (by omega)), show nI (v / 10 ^ k) - nI (v / 10 ^ k) / (10 : Int32) * (10 : Int32) = nI (v / 10 ^ k % 10) from pk_rem (d := 10) (by omega) (by omega) (by omega), show nI (v / 10 ^ k) / (10 : Int32) = nI (v / 10 ^ k / 10) from pk_div (d := 10) (by omega) (by omega) (by omega), Nat.div_div_eq_div_mul, ← Nat.pow_succ, nI_1, show (4 : Int32) * nI k = nI (4 * k) from mIJ 4 k, shl_n (by omega) (by omega), or_n (by omega) (by omega), Nat.or_comm, add_or hpl]
    have e : v / 10 ^ k % 10 * 2 ^ (4 * k) + pk (v % 10 ^ k) = pk (v % 10 ^ (k + 1)) := by
      have : k = 0 ∨ k = 1 ∨ k = 2 := by omega
      rcases this with z | z | z <;> subst z <;> simp only [Nat.reducePow, Nat.reduceMul, Nat.reduceAdd] <;> unfold pk <;> omega
    rw [e]
    exact ih (k + 1) fu (by omega) (by omega) (by omega)
theorem c_ofDec {n : Nat} {Z : Zt} {g : Mem} {w v : Nat} (hn : 40 ≤ n) (hv : v < 10 ^ w) (hw : w ≤ 3) : f_X2_ofDecimal n Z (nI v) (nI w) g = some (nI (pk v), g) := by
  unfold f_X2_ofDecimal
  have := ofd_l7 (n := n) (Z := Z) (g := g) hv hw w 0 n (by omega) (by omega) (by omega)
  rw [Nat.pow_zero, Nat.div_one, Nat.mod_one] at this
  exact this

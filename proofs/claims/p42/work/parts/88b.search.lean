/-! smallestCut: the search -/
theorem key_lt {x y : Nat} (hx : x < 65536) (hy : y < 65536) : key x < key y ↔ pc 16 x < pc 16 y ∨ (pc 16 x = pc 16 y ∧ x < y) := by
  unfold key
  generalize pc 16 x = a
  generalize pc 16 y = b
  rcases Nat.lt_trichotomy a b with q | q | q
  · have := Nat.mul_le_mul_right 65536 (show a + 1 ≤ b by omega)
    constructor
    · intro _; exact Or.inl q
    · intro _; omega
  · subst q; omega
  · have := Nat.mul_le_mul_right 65536 (show b + 1 ≤ a by omega)
    constructor
    · intro z; omega
    · intro z; omega
section SEARCH
variable {n : Nat} {Z : Zt} {g : Mem}
/-- the best of all that hit and hold M -/
def Bst (ys : Pol) (M B r : Nat) : Prop := r < 65536 ∧ hit ys r ∧ key r ≤ key B ∧ ∀ s, s < 65536 → M &&& s = M → hit ys s → key r ≤ key s
theorem union_l4 {a : Nat} {ys : Pol} (hZ : TZ Z a) (h : TsIs g a ys) : ∀ (d j fu U : Nat), d = ys.length - j → j ≤ ys.length → d < fu → U < 65536 → ∃ V, V < 65536 ∧ f_X9_union_l4 n Z a fu (nI U) (nI j) g = some (nI V, g) ∧ U &&& V = U ∧ (∀ i, j ≤ i → i < ys.length → tsA ys i &&& V = tsA ys i) ∧ ∀ W, U &&& W = U → (∀ i, j ≤ i → i < ys.length → tsA ys i &&& W = tsA ys i) → V &&& W = V := by
  have h32 := h.2.1
  intro d
  induction d with
  | zero =>
    intro j fu U h1 h2 h3 h4
    obtain ⟨fu, rfl⟩ : ∃ q, fu = q + 1 := ⟨fu - 1, by omega⟩
    have hj : j = ys.length := by omega
    subst hj
    refine ⟨U, h4, ?_, Nat.and_self _, fun i i1 i2 => by omega, fun W w _ => w⟩
    unfold f_X9_union_l4
    rw [h.1, if_pos ((nle (by omega) (by omega)).mpr (Nat.le_refl _))]
  | succ d ih =>
    intro j fu U h1 h2 h3 h4
    obtain ⟨fu, rfl⟩ : ∃ q, fu = q + 1 := ⟨fu - 1, by omega⟩
    have hj : j < ys.length := by omega
    have ht := tsA_lt ys j
    have hlt : U ||| tsA ys j < 65536 := Nat.or_lt_two_pow (n := 16) h4 ht
    obtain ⟨V, v1, v2, v3, v4, v5⟩ := ih (j + 1) fu (U ||| tsA ys j) (by omega) (by omega) (by omega) hlt
    have oA : ∀ W, (U ||| tsA ys j) &&& W = U ||| tsA ys j ↔ U &&& W = U ∧ tsA ys j &&& W = tsA ys j := fun W => by
      constructor
      · intro z
        constructor
        · apply Nat.eq_of_testBit_eq; intro k
          have hk : ((U ||| tsA ys j) &&& W).testBit k = (U ||| tsA ys j).testBit k := by rw [z]
          rw [Nat.testBit_and, Nat.testBit_or] at hk
          rw [Nat.testBit_and]
          revert hk
          cases U.testBit k <;> cases (tsA ys j).testBit k <;> cases W.testBit k <;> simp
        · apply Nat.eq_of_testBit_eq; intro k
          have hk : ((U ||| tsA ys j) &&& W).testBit k = (U ||| tsA ys j).testBit k := by rw [z]
          rw [Nat.testBit_and, Nat.testBit_or] at hk
          rw [Nat.testBit_and]
          revert hk
          cases U.testBit k <;> cases (tsA ys j).testBit k <;> cases W.testBit k <;> simp
      · rintro ⟨z1, z2⟩
        rw [Nat.and_or_distrib_right, z1, z2]
    refine ⟨V, v1, ?_, ((oA V).mp v3).1, fun i i1 i2 => ?_, fun W w1 w2 => v5 W ((oA W).mpr ⟨w1, w2 j (Nat.le_refl _) hj⟩) fun i i1 i2 => w2 i (by omega) i2⟩
    · unfold f_X9_union_l4
      rw [h.1, if_neg (ge_n (by omega) hj), if_neg (show ¬ (32 : Int32) ≤ nI j from ge_n (N := 32) (by omega) (by omega)), hZ.f0, drf_s, grd_t hZ.k0, hZ.l0, grd_t (show inr (nI j) 32 by rw [inr_eq (by omega)]; omega), clamp (by omega), h.2.2 j hj, or_n (by omega) (by omega), nI_1]
      exact v2
    · by_cases q : i = j
      · subst q; exact ((oA V).mp v3).2
      · exact v4 i (by omega) i2
theorem c_union {a : Nat} {ys : Pol} (hn : 40 ≤ n) (hZ : TZ Z a) (h : TsIs g a ys) : ∃ V, V < 65536 ∧ f_X9_union n Z a g = some (nI V, g) ∧ (∀ i, i < ys.length → tsA ys i &&& V = tsA ys i) ∧ ∀ W, (∀ i, i < ys.length → tsA ys i &&& W = tsA ys i) → V &&& W = V := by
  have h32 := h.2.1
  obtain ⟨V, v1, v2, v3, v4, v5⟩ := union_l4 (n := n) hZ h ys.length 0 n 0 (by omega) (Nat.zero_le _) (by omega) (by omega)
  refine ⟨V, v1, ?_, fun i hi => v4 i (Nat.zero_le _) hi, fun W w => v5 W (Nat.zero_and _) fun i _ hi => w i hi⟩
  unfold f_X9_union
  rw [grd_t hZ.k]; exact v2
/-! the reference -/
def CutI (ys : Pol) (k : Nat) : Option Nat → Prop
  | none => ∀ s, s < k → ¬ hit ys s
  | some r => r < k ∧ hit ys r ∧ ∀ s, s < k → hit ys s → key r ≤ key s
theorem nim6 {i : Nat} (h : i < 65536) : ¬ nI i = (-6 : Int32) := by
  intro z
  have h1 : nI i < 0 := by rw [z]; decide
  have h2 := (nle (a := 0) (b := i) (by omega) (by omega)).mpr (Nat.zero_le _)
  exact absurd h1 (Int32.not_lt.mpr h2)
end SEARCH

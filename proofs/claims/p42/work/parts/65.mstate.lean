/-! THE REFERENCE's STATE -/
theorem ff : ¬ (false = true) := Bool.false_ne_true
theorem neI {a b : Nat} (ha : a < 2147483648) (hb : b < 2147483648) (h : a ≠ b) : ¬ nI a = nI b := fun q => h ((neq ha hb).mp q)
theorem ge_n {N k : Nat} (hN : N < 2147483648) (hk : k < N) : ¬ nI N ≤ nI k := fun q => by have := (nle (by omega) (by omega)).mp q; omega
theorem s_isTO {n : Nat} {Z : Zt} {g : Mem} {x : Int32} (hx : x < 0 ∨ nI 4 ≤ x) : f_X10_isTable n Z x g = some (0, g) := by
  unfold f_X10_isTable
  by_cases q : x < 0
  · rw [if_pos q]
  · rw [if_neg q]
    obtain ⟨j, j1, rfl⟩ := nI_of q
    have h4 : 4 ≤ j := (nle (by omega) (by omega)).mp (hx.resolve_left q)
    simp (disch := omega) only [Lnle, nltL, if_pos, if_neg]
theorem up_up_comm : True := trivial
theorem or_mk {p : Nat → Bool} {k : Nat} (hk : k < 16) : nI (mk p k) ||| (if p k then (1 : Int32) <<< (nI k &&& 31) else 0) = nI (mk p (k + 1)) := by
  have h1 := mk_lt p k
  have h2 : 2 ^ k < 65536 := p2_lt hk
  show _ = nI (mk p k ||| if p k then 2 ^ k else 0)
  by_cases q : p k = true
  · rw [if_pos q, if_pos q, one_shl hk, or_n (by omega) (by omega)]
  · rw [if_neg q, if_neg q, show (0 : Int32) = nI 0 from rfl, or_n (by omega) (by omega)]
def maskB (b : Nat → Nat) (w : Nat) : Nat → Bool := fun t => decide (b (4 + 5 * t) ≠ 0) && (decide (w = 0) || decide (b (8 + 5 * t) = 1))
theorem mk_cong {p q : Nat → Bool} : ∀ k, (∀ t, t < k → p t = q t) → mk p k = mk q k
  | 0, _ => rfl
  | k + 1, h => by unfold mk; rw [mk_cong k fun t ht => h t (by omega), h k (by omega)]
/-! history -/
def pRc (m b j : Nat) : Prop := (b = m ∧ (j = 2 ∨ j = 26)) ∨ b = m + 2
/-! rows, occurrences, the free tag -/
/-- the least free tag from one on -/
def FTk (b : Nat → Nat) (k : Nat) : Option Nat → Prop
  | none => ∀ t, k ≤ t → t < 16 → b (4 + 5 * t) ≠ 0
  | some t => k ≤ t ∧ t < 16 ∧ b (4 + 5 * t) = 0 ∧ ∀ s, k ≤ s → s < t → b (4 + 5 * s) ≠ 0
def ftI : Option Nat → Int32
  | none => -6
  | some t => nI t

/-! SELECTION, PROJECTION, JOIN, UNION (the reference) -/
def kc (k : Nat) : Nat := if k = 0 then 65 else if k = 1 then 61 else if k = 2 then 126 else if k = 3 then 112 else if k = 4 then 106 else 117
/-- named columns as the reference keeps them, four for each -/
def b4 (cnt nd : Nat) : Nat → Nat
  | 0 => 0
  | i + 1 => 4 * b4 cnt nd i + dg cnt nd i
def mSec (nd : Nd) : Nat := if nd.1 = 3 then b4 nd.2.1 nd.2.2 nd.2.1 else nd.2.2
def StepAt (g : Mem) (m i : Nat) (nd : Nd) : Prop := gI g (m + 5) i = nI (kc nd.1) ∧ gI g (m + 6) i = nI nd.2.1 ∧ gI g (m + 7) i = nI (mSec nd)
theorem StepAt.ch {P : Nat → Nat → Prop} {g g' : Mem} {m i : Nat} {nd : Nd} (h : StepAt g m i nd) (hF : Ch P g g') (hP : ∀ b, b = m + 5 ∨ b = m + 6 ∨ b = m + 7 → ¬ P b i) : StepAt g' m i nd :=
  ⟨(hF.i (hP _ (Or.inl rfl))).trans h.1, (hF.i (hP _ (Or.inr (Or.inl rfl)))).trans h.2.1, (hF.i (hP _ (Or.inr (Or.inr rfl)))).trans h.2.2⟩
theorem filter_cons {p : Nat × Pol → Bool} {x : Nat × Pol} {L : Rws} : (x :: L).filter p = if p x = true then x :: L.filter p else L.filter p := by
  rw [List.filter_cons]
/-! selects -/
/-! projects -/
theorem b4_dig {cnt nd i : Nat} (hd : ∀ i, i < cnt → dg cnt nd i < 4) : ∀ j, i + 1 + j ≤ cnt → b4 cnt nd (i + 1 + j) / 2 ^ (2 * j) % 4 = dg cnt nd i := by
  intro j
  induction j with
  | zero =>
    intro h
    have := hd i (by omega)
    show (4 * b4 cnt nd i + dg cnt nd i) / 1 % 4 = _
    omega
  | succ j ih =>
    intro h
    have h1 := ih (by omega)
    have h2 := hd (i + 1 + j) (by omega)
    have e : b4 cnt nd (i + 1 + (j + 1)) / 2 ^ (2 * (j + 1)) = b4 cnt nd (i + 1 + j) / 2 ^ (2 * j) := by
      rw [show (2 : Nat) ^ (2 * (j + 1)) = 4 * 2 ^ (2 * j) by rw [Nat.mul_add, Nat.pow_add]; omega, ← Nat.div_div_eq_div_mul]
      congr 1
      show (4 * b4 cnt nd (i + 1 + j) + dg cnt nd (i + 1 + j)) / 4 = _
      omega
    rw [e]; exact h1
theorem b4_lt {cnt nd : Nat} (hd : ∀ i, i < cnt → dg cnt nd i < 4) : ∀ i, i ≤ cnt → b4 cnt nd i < 4 ^ i := by
  intro i
  induction i with
  | zero => intro _; exact Nat.one_pos
  | succ i ih =>
    intro h
    have := ih (by omega)
    have := hd i (by omega)
    show 4 * b4 cnt nd i + dg cnt nd i < 4 ^ (i + 1)
    rw [Nat.pow_succ]; omega

/-! fits (the reference) -/
def pF (m b j : Nat) : Prop := (b = m ∧ j = 24) ∨ b = m + 12
theorem b4_dig' {cnt nd k : Nat} (hd : ∀ i, i < cnt → dg cnt nd i < 4) (hk : k < cnt) : b4 cnt nd cnt / 2 ^ (2 * k) % 4 = dg cnt nd (cnt - 1 - k) := by
  have := b4_dig hd (i := cnt - 1 - k) k (by omega)
  rw [show cnt - 1 - k + 1 + k = cnt by omega] at this
  exact this
def MxP (r k cnt nd : Nat) : Prop := r = 0 ∨ ∃ j, j < k ∧ r = dg cnt nd (cnt - 1 - j)

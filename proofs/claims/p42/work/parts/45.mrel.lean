/-! THE REFERENCE's RELATIONS -/
/-- the places of a row of the pile -/
def pR (m R b j : Nat) : Prop := ((b = m + 14 ∨ b = m + 15) ∧ j = R) ∨ ((b = m + 16 ∨ b = m + 17) ∧ 32 * R ≤ j ∧ j < 32 * R + 32)
/-- .. of a relation of the pile, and the sign that it is too large -/
def pQ (m ρ b j : Nat) : Prop := (b = m ∧ j = 25) ∨ ((b = m + 12 ∨ b = m + 13) ∧ j = ρ) ∨ ((b = m + 14 ∨ b = m + 15) ∧ 32 * ρ ≤ j ∧ j < 32 * ρ + 32) ∨ ((b = m + 16 ∨ b = m + 17) ∧ 1024 * ρ ≤ j ∧ j < 1024 * ρ + 1024)
/-- .. of its rows from one on -/
theorem pR_Q {m ρ r b j : Nat} (hr : r < 32) (h : pR m (32 * ρ + r) b j) : pQ m ρ b j := by
  unfold pR at h; unfold pQ; omega
theorem pT_Q {m ρ r b j : Nat} (hr : r < 32) (h : pT m (32 * ρ + r) b j) : pQ m ρ b j := by
  unfold pT at h; unfold pQ; omega
/-! copiesRow -/
/-! rowFor -/

/-! THE REFERENCE ADDS ROWS: a relation under way, none where it is too large -/
theorem pR_ne {m ρ σ r b j : Nat} (hne : ρ ≠ σ) (hr : r < 32) (h : pR m (32 * ρ + r) b j) : ¬ pQ m σ b j := by
  unfold pR at h; unfold pQ; omega
theorem pT_ne {m ρ σ r b j : Nat} (hne : ρ ≠ σ) (hr : r < 32) (h : pT m (32 * ρ + r) b j) : ¬ pQ m σ b j := by
  unfold pT at h; unfold pQ; omega
theorem setget {rows : Rws} {r : Nat} {x : Nat × Pol} (hr : r < rows.length) : (rows.set r x).getD r (0, []) = x := by
  rw [set_get _ _ _ _ hr, if_pos rfl]
theorem setset {rows : Rws} {r : Nat} {x y : Nat × Pol} : (rows.set r x).set r y = rows.set r y := List.set_set ..
theorem set_same {rows : Rws} {r : Nat} {x : Nat × Pol} (hr : r < rows.length) (h : rows.getD r (0, []) = x) : rows.set r x = rows := by
  induction rows generalizing r with
  | nil => exact absurd hr (Nat.not_lt_zero _)
  | cons y l ih =>
    cases r with
    | zero =>
      have h' : y = x := h
      rw [← h']; rfl
    | succ r =>
      have := ih (r := r) (by simpa using hr) h
      show y :: l.set r x = y :: l
      rw [this]
theorem i10 : ¬ (1 : Int32) = 0 := by decide
/-! multiplies -/
/-! replaces -/
def pS (m ρ b j : Nat) : Prop := pQ m ρ b j ∨ (b = m ∧ j = 24)

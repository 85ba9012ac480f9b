/-! THE REFERENCE WORKS A STEP OUT -/
/-- all relations of the pile from one on -/
def pW (m σ b j : Nat) : Prop := (b = m ∧ (j = 24 ∨ j = 25)) ∨ ((b = m + 12 ∨ b = m + 13) ∧ σ ≤ j) ∨ ((b = m + 14 ∨ b = m + 15) ∧ 32 * σ ≤ j) ∨ ((b = m + 16 ∨ b = m + 17) ∧ 1024 * σ ≤ j)
theorem pQ_W {m ρ σ b j : Nat} (h : σ ≤ ρ) (q : pQ m ρ b j) : pW m σ b j := by
  unfold pQ at q; unfold pW; omega
theorem pS_W {m ρ σ b j : Nat} (h : σ ≤ ρ) (q : pS m ρ b j) : pW m σ b j := by
  unfold pS pQ at q; unfold pW; omega
theorem pQ_nW {m ρ σ b j : Nat} (h : ρ < σ) (q : pQ m ρ b j) (hb : b ≠ m) : ¬ pW m σ b j := by
  unfold pQ at q; unfold pW; omega
theorem obind_cons {o : Option Rws} {x : Nat × Pol} {L : Rws} : (o.bind fun rows => rAddL rows (x :: L)) = (o.bind fun rows => rAdd rows x.1 x.2).bind fun rows => rAddL rows L := by
  cases o with
  | none => rfl
  | some rows =>
    show rAddL rows (x :: L) = (rAdd rows x.1 x.2).bind _
    cases h : rAdd rows x.1 x.2 with
    | none => simp only [rAddL, h]; rfl
    | some r => simp only [rAddL, h]; rfl
theorem obind_nil {o : Option Rws} : (o.bind fun rows => rAddL rows []) = o := by cases o <;> rfl
/-! pilesTable -/

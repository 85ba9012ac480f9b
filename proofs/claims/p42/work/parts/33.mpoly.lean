/-! THE REFERENCE's POLYNOMIALS: rows of two long arrays -/
/-- what adding to the row R may change -/
def pT (m R b j : Nat) : Prop := (b = m + 15 ∧ j = R) ∨ ((b = m + 16 ∨ b = m + 17) ∧ 32 * R ≤ j ∧ j < 32 * R + 32)
abbrev Fm (m R : Nat) (g g' : Mem) : Prop := Ch (pT m R) g g'
theorem Fm.rfl {m R : Nat} {g : Mem} : Fm m R g g := Ch.rfl
theorem mIJ (a b : Nat) : nI a * nI b = nI (a * b) := pk_mul a b
def Mhf (g0 g : Mem) (m R i s : Nat) : Prop := Fm m R g0 g ∧ gI g (m + 15) R = gI g0 (m + 15) R ∧ (∀ j, gJ g (m + 16) (32 * R + j) = if i < j ∧ j ≤ s then gJ g0 (m + 16) (32 * R + (j - 1)) else gJ g0 (m + 16) (32 * R + j)) ∧ ∀ j, gJ g (m + 17) (32 * R + j) = if i < j ∧ j ≤ s then gJ g0 (m + 17) (32 * R + (j - 1)) else gJ g0 (m + 17) (32 * R + j)
theorem Fm.sJ {m R : Nat} {g g' : Mem} {b k : Nat} {v : Int64} (h : Fm m R g g') (hb : b = m + 16 ∨ b = m + 17) (h1 : 32 * R ≤ k) (h2 : k < 32 * R + 32) : Fm m R g (sJ g' b k v) := Ch.sJ h (Or.inr ⟨hb, h1, h2⟩)
theorem Fm.sI {m R : Nat} {g g' : Mem} {v : Int32} (h : Fm m R g g') : Fm m R g (sI g' (m + 15) R v) := Ch.sI h (Or.inl ⟨Eq.refl _, Eq.refl _⟩)

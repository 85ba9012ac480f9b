/-- how reading ends (the reference) -/
def MRd (f : Option (Int32 × Mem)) (g : Mem) (m len : Nat) (r : Nat × Option (List Nd × List Nd)) : Prop := ∃ g', Ch (pP m) g g' ∧ gI g' m 7 = nI r.1 ∧ match r.2 with
  | some x => SIs g' m x.2 ∧ f = some (if r.1 = len then 1 else 0, g')
  | none => f = some (0, g')
theorem MRd.pre {f : Option (Int32 × Mem)} {g g1 : Mem} {m len : Nat} {r : Nat × Option (List Nd × List Nd)} (h : MRd f g1 m len r) (hF : Ch (pP m) g g1) : MRd f g m len r := by
  obtain ⟨g', a, b⟩ := h
  exact ⟨g', hF.trans a, b⟩
theorem MRd.cong {f f' : Option (Int32 × Mem)} {g : Mem} {m len : Nat} {r : Nat × Option (List Nd × List Nd)} (h : MRd f g m len r) (e : f' = f) : MRd f' g m len r := e ▸ h
def OOk (O : List (Nd × Nat)) : Prop := ∀ e ∈ O, NOk e.1 ∧ e.2 < ar e.1.1
/-! the source is laid -/

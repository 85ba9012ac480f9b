/-- a head that opens something was read -/
def MH (g' : Mem) (m len : Nat) (T : Nat → Nat) (O : List (Nd × Nat)) (S : List Nd) (r : Option Nd × Nat) : Prop := match r.1 with
  | some nd => MP g' m len T r.2 1 ((nd, 0) :: O) S
  | none => MFail g' m r.2
def MHd (f : Option (Unit × Mem)) (g : Mem) (m len : Nat) (T : Nat → Nat) (O : List (Nd × Nat)) (S : List Nd) (r : Option Nd × Nat) : Prop := ∃ g', f = some ((), g') ∧ Ch (pP m) g g' ∧ MH g' m len T O S r
theorem MHd.pre {f : Option (Unit × Mem)} {g g1 : Mem} {m len : Nat} {T : Nat → Nat} {O : List (Nd × Nat)} {S : List Nd} {r : Option Nd × Nat} (h : MHd f g1 m len T O S r) (hF : Ch (pP m) g g1) : MHd f g m len T O S r := by
  obtain ⟨g', a, b, c⟩ := h
  exact ⟨g', a, hF.trans b, c⟩
theorem MHd.cong {f f' : Option (Unit × Mem)} {g : Mem} {m len : Nat} {T : Nat → Nat} {O : List (Nd × Nat)} {S : List Nd} {r : Option Nd × Nat} (h : MHd f g m len T O S r) (e : f' = f) : MHd f' g m len T O S r := e ▸ h
theorem b4_snoc {cnt nd d : Nat} (hd : d < 10) : b4 (cnt + 1) (nd * 10 + d) (cnt + 1) = 4 * b4 cnt nd cnt + d := by
  have h : ∀ i, i ≤ cnt → b4 (cnt + 1) (nd * 10 + d) i = b4 cnt nd i := by
    intro i
    induction i with
    | zero => intro _; rfl
    | succ i ih =>
      intro hi
      show 4 * b4 (cnt + 1) (nd * 10 + d) i + dg (cnt + 1) (nd * 10 + d) i = 4 * b4 cnt nd i + dg cnt nd i
      rw [ih (by omega), dg_snoc hd (by omega)]
  show 4 * b4 (cnt + 1) (nd * 10 + d) cnt + dg (cnt + 1) (nd * 10 + d) cnt = _
  rw [h cnt (Nat.le_refl _), dg_last hd]

/-! THE REFERENCE READS -/
def pP (m b j : Nat) : Prop := (b = m ∧ (j = 7 ∨ j = 8 ∨ j = 12 ∨ j = 17)) ∨ (m + 5 ≤ b ∧ b ≤ m + 11)
def hI (t : Nat) : Int32 := if t = 0 then -6 else nI t
theorem hI_eq {t x : Nat} (ht : t < 128) (hx : 0 < x) (hx2 : x < 128) : hI t = nI x ↔ t = x := by
  unfold hI
  by_cases h : t = 0
  · subst h
    rw [if_pos rfl]
    refine ⟨fun q => ?_, fun q => by omega⟩
    have h1 : nI x < 0 := by rw [← q]; decide
    exact absurd h1 (fun z => nI_nlt (a := x) (b := 0) (Nat.zero_le _) (by omega) z)
  · rw [if_neg h]; exact neq (by omega) (by omega)
def OpIs (g : Mem) (m : Nat) : List (Nd × Nat) → Prop
  | [] => True
  | (nd, h) :: O => gI g (m + 8) O.length = nI (kc nd.1) ∧ gI g (m + 9) O.length = nI nd.2.1 ∧ gI g (m + 10) O.length = nI (mSec nd) ∧ gI g (m + 11) O.length = nI h ∧ OpIs g m O
theorem OpIs.ch {P : Nat → Nat → Prop} {g g' : Mem} {m : Nat} (hF : Ch P g g') : ∀ {O : List (Nd × Nat)}, (∀ b j, m + 8 ≤ b → b ≤ m + 11 → j < O.length → ¬ P b j) → OpIs g m O → OpIs g' m O
  | [], _, _ => trivial
  | (nd, h) :: O, hP, hS => ⟨(hF.i (hP _ _ (by omega) (by omega) (by simp))).trans hS.1, (hF.i (hP _ _ (by omega) (by omega) (by simp))).trans hS.2.1, (hF.i (hP _ _ (by omega) (by omega) (by simp))).trans hS.2.2.1, (hF.i (hP _ _ (by omega) (by omega) (by simp))).trans hS.2.2.2.1, OpIs.ch hF (fun b j h1 h2 h3 => hP b j h1 h2 (by simp only [List.length_cons]; omega)) hS.2.2.2.2⟩
/-- the source -/
def SrcIs (g : Mem) (m len : Nat) (T : Nat → Nat) : Prop := gI g m 6 = nI len ∧ ∀ k, k < len → gI g (m + 4) k = nI (T k)
theorem SrcIs.ch {P : Nat → Nat → Prop} {g g' : Mem} {m len : Nat} {T : Nat → Nat} (h : SrcIs g m len T) (hF : Ch P g g') (hP : ¬ P m 6 ∧ ∀ j, ¬ P (m + 4) j) : SrcIs g' m len T :=
  ⟨(hF.i hP.1).trans h.1, fun k hk => (hF.i (hP.2 k)).trans (h.2 k hk)⟩
/-- the reference under way -/
def MP (g : Mem) (m len : Nat) (T : Nat → Nat) (p F : Nat) (O : List (Nd × Nat)) (S : List Nd) : Prop := SrcIs g m len T ∧ gI g m 7 = nI p ∧ p < 100 ∧ gI g m 8 = nI F ∧ F ≤ 1 ∧ gI g m 12 = nI S.length ∧ (∀ k, k < S.length → StepAt g m k (S.getD k (0, 0, 0))) ∧ gI g m 17 = nI O.length ∧ OpIs g m O
/-- .. that has failed -/
def MFail (g : Mem) (m p : Nat) : Prop := gI g m 7 = nI p ∧ gI g m 8 = 0
theorem MP.fail {g : Mem} {m len p : Nat} {T : Nat → Nat} {O : List (Nd × Nat)} {S : List Nd} (h : MP g m len T p 0 O S) : MFail g m p := ⟨h.2.1, h.2.2.2.1⟩

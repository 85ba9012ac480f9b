/-! works (the reference) -/
def SIs (g : Mem) (m : Nat) (L : List Nd) : Prop := gI g m 12 = nI L.length ∧ ∀ k, k < L.length → StepAt g m k (L.getD k (0, 0, 0))
theorem drop_len_ar {st : List Vl} {k : Nat} (h : k ≤ st.length) : (st.drop k).length = st.length - k := List.length_drop ..
theorem getD_map_fst (st : List Vl) (i : Nat) : (st.map Prod.fst).getD i 0 = (st.getD i dV).1 := by
  induction st generalizing i with
  | nil => rfl
  | cons x l ih => cases i with
    | zero => rfl
    | succ i => exact ih i

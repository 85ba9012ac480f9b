/-- a step comes to those that are there -/
theorem MP.emit {g g' : Mem} {m len p : Nat} {T : Nat → Nat} {O : List (Nd × Nat)} {S : List Nd} {nd : Nd} (h : MP g m len T p 1 O S) (hS : S.length < 60) (hF : Ch (fun b j => (b = m ∧ j = 12) ∨ ((b = m + 5 ∨ b = m + 6 ∨ b = m + 7) ∧ j = S.length)) g g') (h12 : gI g' m 12 = nI (S.length + 1)) (h1 : gI g' (m + 5) S.length = nI (kc nd.1)) (h2 : gI g' (m + 6) S.length = nI nd.2.1) (h3 : gI g' (m + 7) S.length = nI (mSec nd)) : MP g' m len T p 1 O (S ++ [nd]) := by
  obtain ⟨b1, b2, b3, b4, b5, b6, b7, b8, b9⟩ := h
  refine ⟨b1.ch hF ⟨by omega, fun j => by omega⟩, (hF.i (by omega)).trans b2, b3, (hF.i (by omega)).trans b4, b5, by rw [h12, List.length_append]; rfl, fun k hk => ?_, (hF.i (by omega)).trans b8, b9.ch hF fun b j q1 q2 q3 => by omega⟩
  rw [List.length_append, List.length_singleton] at hk
  by_cases hkp : k < S.length
  · rw [getD_append_left' hkp]
    exact (b7 k hkp).ch hF fun b hb => by omega
  · have hke : k = S.length := by omega
    subst hke
    rw [getD_append_right']
    exact ⟨h1, h2, h3⟩

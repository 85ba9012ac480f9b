/-! dropQuery, undo -/
theorem ans_0 {b : Nat → Nat} : Ans (setQ b 0 fun _ => 0) dV := Or.inl ⟨setQ_84, rfl⟩
section UNDO
variable {n : Nat} {Z : Zt} {c m : Nat} {g : Mem}
end UNDO

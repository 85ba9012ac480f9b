section CUT
variable {n : Nat} {Z : Zt} {c m : Nat} {g : Mem}
theorem row_ne {len k j : Nat} {b : Nat → Nat} {hb : List (Nat → Nat)} {T : Nat → Nat} {P : List Nat} {v : Vl} (hP : PInv b hb len T P v) (hk : k < v.2.length) (p : Nat → Bool) (hj : j < (fav p (rowP v k)).length) : tsA (fav p (rowP v k)) j ≠ 0 := by
  have hy : (fav p (rowP v k)).getD j (0, 0) ∈ rowP v k := (List.mem_filter.mp (getD_mem (d := (0, 0)) hj)).1
  exact ts_ne ((hP.2.2.2.1.good hP.1.1).1 _ (getD_mem (d := (0, [])) hk) _ (List.mem_map_of_mem hy))
end CUT

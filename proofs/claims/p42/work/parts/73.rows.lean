/-! addRow, dropRow -/
/-- the answer that the class holds -/
theorem EA.at {Z : Zt} {g : Mem} {a : Nat} {v : Vl} (hZ : EZ Z a) (h : EA g a v) : ∃ q π, gP g a 2 = some q ∧ RZ Z q ∧ RIs g q v.1 π (pkR v.2) ∧ a + 2 ≤ q ∧ q + 99 ≤ a + 1388 := by
  obtain ⟨ρ, C, h1, h2⟩ := h
  have h13 := h1.2.2.2.1 13 (by omega)
  obtain ⟨π, hR⟩ := h1.2.2.2.2.2 13 (by omega)
  rw [h2] at hR
  exact ⟨_, π, h1.2.2.1, hZ.2 _ h13, hR, by omega, by omega⟩
theorem ans_set {b : Nat → Nat} {t tab v' : Nat} (hB : BOk b) (ht : t < 16) : (∀ k, 84 ≤ k → setRow b t tab v' (if tab = 0 then 0 else 1) (if tab = 0 then 0 else 100) 0 k = b k) ∧ ∀ pre, Prs b pre → ∀ x ∈ pre, x.1 = 0 → setRow b t tab v' (if tab = 0 then 0 else 1) (if tab = 0 then 0 else 100) 0 x.2.1 = b x.2.1 :=
  ⟨fun k hk => setRow_hi ht hk, wid_same hB fun s hs => setRow_lo hs⟩
section ROWS2
variable {n : Nat} {Z : Zt} {c m : Nat} {g : Mem}
end ROWS2

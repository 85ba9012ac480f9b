/-! BOTH SIDES, CALL BY CALL -/
def PInv (b : Nat → Nat) (hb : List (Nat → Nat)) (len : Nat) (T : Nat → Nat) (P : List Nat) (v : Vl) : Prop := SOk b ∧ (∀ x ∈ hb, SOk x) ∧ TOk T len ∧ Ans b v ∧ P.length ≤ 1024
theorem rec4_mem {hb : List (Nat → Nat)} {b x : Nat → Nat} (h : x ∈ rec4 hb b) : x ∈ hb ∨ x = b := by
  unfold rec4 at h
  rcases List.mem_append.mp h with q | q
  · split at q
    · exact Or.inl (List.mem_of_mem_drop q)
    · exact Or.inl q
  · exact Or.inr (List.mem_singleton.mp q)
theorem c_record {n : Nat} {Z : Zt} {c len : Nat} {b : Nat → Nat} {hb : List (Nat → Nat)} {T : Nat → Nat} {P : List Nat} {v : Vl} {g : Mem} (hn : 100 ≤ n) (hZ : CZ Z c) (hB : BOk b) (h : CInv g c b hb len T P v) : ∃ g', f_X1_record n Z (c + 17) (c + 1) g = some ((), g') ∧ CInv g' c b (rec4 hb b) len T P v ∧ Fr c (c + 1462) g g' := by
  obtain ⟨a1, ⟨σ, a2⟩, a3, a4, a5, a6⟩ := h
  obtain ⟨g', σ', e1, e2, e3⟩ := h_record (n := n) hn hZ.hi hZ.st hB (by omega) a2 a1
  exact ⟨g', e1, ⟨a1.fr e3 (by omega), ⟨σ', e2⟩, a3.fr e3 (by omega), a4.fr e3 (by omega), a5.fr e3 (by omega), a6.fr e3 (by omega)⟩, e3.mono (by omega) (by omega)⟩
theorem pRc_fr {m : Nat} {g g' : Mem} (h : Ch (pRc m) g g') : Fr m (m + 21) g g' := h.fr fun b j q => by unfold pRc at q; omega
theorem c_state {c len : Nat} {b b' : Nat → Nat} {hb : List (Nat → Nat)} {T : Nat → Nat} {P : List Nat} {v : Vl} {g g' : Mem} (h : CInv g c b hb len T P v) (hF : Fr (c + 1) (c + 9) g g') (hS : StIs g' (c + 1) b') (hQ : CQ g (c + 61) b') : CInv g' c b' hb len T P v ∧ Fr c (c + 1462) g g' := by
  obtain ⟨a1, ⟨σ, a2⟩, a3, a4, a5, a6⟩ := h
  exact ⟨⟨hS, ⟨σ, a2.fr hF (by omega)⟩, a3.fr hF (by omega), a4.fr hF (by omega), hQ.fr hF (by omega), a6.fr hF (by omega)⟩, hF.mono (by omega) (by omega)⟩
theorem CQ.cong {g : Mem} {q : Nat} {b b' : Nat → Nat} (h : CQ g q b) (e : ∀ k, 84 ≤ k → b' k = b k) (hw : ∀ pre, Prs b pre → ∀ x ∈ pre, x.1 = 0 → b' x.2.1 = b x.2.1) : CQ g q b' := by
  rcases h with ⟨a1, a2⟩ | ⟨a1, pre, w, a2, a3, a4⟩
  · exact Or.inl ⟨by rw [e 84 (by omega)]; exact a1, a2⟩
  · exact Or.inr ⟨by rw [e 84 (by omega)]; exact a1, pre, w, a2.cong e, by rw [qw_cong (hw pre a2)]; exact a3, a4⟩
/-- no table's width changes -/
theorem wid_same {b b' : Nat → Nat} (hb : BOk b) (hw : ∀ t, t < 4 → b' t = b t) : ∀ pre, Prs b pre → ∀ x ∈ pre, x.1 = 0 → b' x.2.1 = b x.2.1 := fun pre hp x hx h0 => hw _ (by have := (hp.ok hb).2.1 x hx; unfold NOk at this; omega)
section PAIRS
variable {n : Nat} {Z : Zt} {c m : Nat} {g : Mem}
end PAIRS

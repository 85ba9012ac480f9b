/-! THE REFERENCE's FORMS: in the row 416 -/
def pFm (m b j : Nat) : Prop := (b = m ∧ j = 25) ∨ (b = m + 13 ∧ j = 13) ∨ (b = m + 15 ∧ j = 416) ∨ ((b = m + 16 ∨ b = m + 17) ∧ 13312 ≤ j ∧ j < 13344) ∨ b = m + 18
theorem pT_Fm {m b j : Nat} (h : pT m 416 b j) : pFm m b j := by unfold pT at h; unfold pFm; omega
theorem pFm_L {m b j : Nat} (h : pFm m b j) : pL m b j := by unfold pFm at h; unfold pL; omega
theorem ix416 (j : Nat) : (13312 : Int32) + nI j = nI (13312 + j) := nI_add 13312 j
section MFORM
variable {n : Nat} {Z : Zt} {m : Nat}
/-- compaction of the reference under way -/
def Kpm (g : Mem) (m : Nat) (zs : Pol) (j : Nat) : Prop := gI g (m + 15) 416 = nI zs.length ∧ (∀ i, i < zs.length → gI g (m + 18) i = if cont zs i = true then 1 else 0) ∧ (∀ i, i < (kpL zs j).length → gJ g (m + 16) (13312 + i) = ((kpL zs j).getD i (0, 0)).1) ∧ (∀ i, j ≤ i → i < zs.length → gJ g (m + 16) (13312 + i) = (zs.getD i (0, 0)).1) ∧ ∀ i, i < zs.length → gJ g (m + 17) (13312 + i) = 1
theorem kp_one2 {zs : Pol} (h : ∀ a ∈ zs, a.2 = 1) : ∀ j, j ≤ zs.length → ∀ a ∈ kpL zs j, a.2 = 1
  | 0, _, a, ha => absurd ha List.not_mem_nil
  | j + 1, hj, a, ha => by
    have ih := kp_one2 h j (by omega)
    unfold kpL at ha
    split at ha
    · exact ih a ha
    · rcases List.mem_append.mp ha with q | q
      · exact ih a q
      · rw [List.mem_singleton.mp q]; exact h _ (getD_mem (by omega))
end MFORM

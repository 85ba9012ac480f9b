/-! THE REFERENCE'S CONSTRUCTOR -/
def fldL : List (Nat × Nat × Nat) := [(0, 12, 145), (1, 12, 580), (3, 12, 60), (5, 12, 60), (9, 12, 60), (10, 12, 60), (11, 12, 60), (13, 12, 60), (14, 12, 60), (15, 12, 60), (16, 12, 60), (18, 12, 14), (19, 12, 14), (20, 12, 448), (21, 12, 448), (22, 13, 14336), (23, 13, 14336), (27, 14, 32), (28, 12, 32), (30, 12, 3000)]
def fF (j : Nat) : Nat := (fldL.getD j (0, 0, 0)).1
def fK (j : Nat) : Nat := (fldL.getD j (0, 0, 0)).2.1
def fL (j : Nat) : Nat := (fldL.getD j (0, 0, 0)).2.2
theorem fF_ne : ∀ i j : Fin 20, i.1 < j.1 → fF i.1 ≠ fF j.1 := by decide +kernel
section X11I
variable {n : Nat}
def ACC (Z0 : Zt) (g0 : Mem) (m j : Nat) (Z : Zt) (g : Mem) : Prop := zk Z m = 10 ∧ (∀ i, i < j → zf Z m (fF i) = some (m + 1 + i) ∧ zk Z (m + 1 + i) = fK i ∧ zl Z (m + 1 + i) = fL i) ∧ ZB m Z0 Z ∧ Fr (m + 1) (m + 21) g0 g ∧ (1 ≤ j → ∀ t, gI g (m + 1) t = 0)
theorem acc_step {β : Type} {Z0 Z : Zt} {g0 g : Mem} {m j : Nat} {K : Zt → Mem → Option β} {Q : β → Prop} (h : ACC Z0 g0 m j Z g) (hj : j < 20) (hn : ∀ Z1 g1, ACC Z0 g0 m (j + 1) Z1 g1 → ∃ r, K Z1 g1 = some r ∧ Q r) : ∃ r, nam (nA Z (m + 1 + j) (fK j) (fL j)) (fun Z2 => nam (zr g (m + 1 + j)) (fun g4 => grd (zk Z2 m = 10) (nam (fZ Z2 m (fF j) (some (m + 1 + j))) (fun Z8 => K Z8 g4)))) = some r ∧ Q r := by
  obtain ⟨h1, h2, h3, h4, h5⟩ := h
  have e : zk (nA Z (m + 1 + j) (fK j) (fL j)) m = 10 := by rw [zk_nA, if_neg (by omega)]; exact h1
  have H : ACC Z0 g0 m (j + 1) (fZ (nA Z (m + 1 + j) (fK j) (fL j)) m (fF j) (some (m + 1 + j))) (zr g (m + 1 + j)) := by
    refine ⟨e, fun i hi => ?_, fun b hb => ?_, h4.zr (by omega) (by omega), fun _ t => ?_⟩
    · by_cases q : i = j
      · subst q
        exact ⟨by rw [zf_fZ, if_pos ⟨rfl, rfl⟩], by rw [zk_fZ, zk_nA, if_pos rfl], by rw [zl_fZ, zl_nA, if_pos rfl]⟩
      · obtain ⟨a1, a2, a3⟩ := h2 i (by omega)
        have hne : ¬ fF i = fF j := fF_ne ⟨i, by omega⟩ ⟨j, hj⟩ (by show i < j; omega)
        exact ⟨by rw [zf_fZ, if_neg (fun z => hne z.2), zf_nA]; exact a1, by rw [zk_fZ, zk_nA, if_neg (by omega)]; exact a2, by rw [zl_fZ, zl_nA, if_neg (by omega)]; exact a3⟩
    · obtain ⟨a1, a2, a3⟩ := h3 b hb
      exact ⟨by rw [zk_fZ, zk_nA, if_neg (by omega)]; exact a1, by rw [zl_fZ, zl_nA, if_neg (by omega)]; exact a2, fun j => by rw [zf_fZ, if_neg (by omega), zf_nA]; exact a3 j⟩
    · rw [gI_zr]
      by_cases q : m + 1 = m + 1 + j
      · rw [if_pos q]
      · rw [if_neg q]; exact h5 (by omega) t
  obtain ⟨r, r1, r2⟩ := hn _ _ H
  refine ⟨r, ?_, r2⟩
  simp only [nam]
  rw [grd_t e]; exact r1
end X11I

/-! THE REFERENCE'S CONSTRUCTOR -/
def fldL : List (Nat × Nat × Nat) := [(0, 12, 145), (1, 12, 580), (3, 12, 60), (5, 12, 60), (9, 12, 60), (10, 12, 60), (11, 12, 60), (13, 12, 60), (14, 12, 60), (15, 12, 60), (16, 12, 60), (18, 12, 14), (19, 12, 14), (20, 12, 448), (21, 12, 448), (22, 13, 14336), (23, 13, 14336), (27, 14, 32), (28, 12, 32), (30, 12, 3000)]
def fF (j : Nat) : Nat := (fldL.getD j (0, 0, 0)).1
def fK (j : Nat) : Nat := (fldL.getD j (0, 0, 0)).2.1
def fL (j : Nat) : Nat := (fldL.getD j (0, 0, 0)).2.2
theorem fF_ne : ∀ i j : Fin 20, i.1 < j.1 → fF i.1 ≠ fF j.1 := by decide +kernel
section X11I
variable {n : Nat}
def ACC (Z0 : Zt) (g0 : Mem) (m j : Nat) (Z : Zt) (g : Mem) : Prop := zk Z m = 10 ∧ (∀ i, i < j → zf Z m (fF i) = some (m + 1 + i) ∧ zk Z (m + 1 + i) = fK i ∧ zl Z (m + 1 + i) = fL i) ∧ ZB m Z0 Z ∧ Fr (m + 1) (m + 21) g0 g ∧ (1 ≤ j → ∀ t, gI g (m + 1) t = 0)
theorem acc_step {β : Type} {Z0 Z : Zt} {g0 g : Mem} {m j : Nat} {K : Zt → Mem → Option β} {Q : β → Prop} (h : ACC Z0 g0 m j Z g) (hj : j < 20) (hn : ∀ Z1 g1, ACC Z0 g0 m (j + 1) Z1 g1 → ∃ r, K Z1 g1 = some r ∧ Q r) : ∃ r, nam (nA Z (m + 1 + j) (fK j) (fL j)) (fun Z2 => nam (zr g (m + 1 + j)) (fun g4 => grd (zk Z2 m = 10) (nam (fZ Z2 m (fF j) (some (m + 1 + j))) (fun Z8 => K Z8 g4)))) = some r ∧ Q r := by
  obtain ⟨h1, h2, h3, h4, h5⟩ := h
  have e : zk (nA Z (m + 1 + j) (fK j) (fL j)) m = 10 := by rw [zk_nA, if_neg (by omega)]; exact h1
  have H : ACC Z0 g0 m (j + 1) (fZ (nA Z (m + 1 + j) (fK j) (fL j)) m (fF j) (some (m + 1 + j))) (zr g (m + 1 + j)) := by
    refine ⟨e, fun i hi => ?_, fun b hb => ?_, h4.zr (by omega) (by omega), fun _ t => ?_⟩
    · by_cases q : i = j
      · subst q
        exact ⟨by rw [zf_fZ, if_pos ⟨rfl, rfl⟩], by rw [zk_fZ, zk_nA, if_pos rfl], by rw [zl_fZ, zl_nA, if_pos rfl]⟩
      · obtain ⟨a1, a2, a3⟩ := h2 i (by omega)
        have hne : ¬ fF i = fF j := fF_ne ⟨i, by omega⟩ ⟨j, hj⟩ (by show i < j; omega)
        exact ⟨by rw [zf_fZ, if_neg (fun z => hne z.2), zf_nA]; exact a1, by rw [zk_fZ, zk_nA, if_neg (by omega)]; exact a2, by rw [zl_fZ, zl_nA, if_neg (by omega)]; exact a3⟩
    · obtain ⟨a1, a2, a3⟩ := h3 b hb
      exact ⟨by rw [zk_fZ, zk_nA, if_neg (by omega)]; exact a1, by rw [zl_fZ, zl_nA, if_neg (by omega)]; exact a2, fun j => by rw [zf_fZ, if_neg (by omega), zf_nA]; exact a3 j⟩
    · rw [gI_zr]
      by_cases q : m + 1 = m + 1 + j
      · rw [if_pos q]
      · rw [if_neg q]; exact h5 (by omega) t
  obtain ⟨r, r1, r2⟩ := hn _ _ H
  refine ⟨r, ?_, r2⟩
  simp only [nam]
  rw [grd_t e]; exact r1
theorem i_X11 {m : Nat} {Z : Zt} {g : Mem} (hn : 40 ≤ n) (hk : zk Z m = 10) (hz : ∀ j, gI g m j = 0) : ∃ r, fi_X11 n (m + 1) Z m g = some r ∧ MZ r.1 m ∧ MInv r.2 m bI [] 0 T0 [] dV ∧ ZB m Z r.1 ∧ Fr m (m + 21) g r.2 := by
  have h0 : ACC Z g m 0 Z g := ⟨hk, fun i hi => absurd hi (Nat.not_lt_zero _), fun b hb => ⟨rfl, rfl, fun j => rfl⟩, Fr.rfl, fun z => by omega⟩
  unfold fi_X11
  refine acc_step (j := 0) h0 (by omega) fun Z1 g1 h1 => ?_
  refine acc_step (j := 1) h1 (by omega) fun Z2 g2 h2 => ?_
  refine acc_step (j := 2) h2 (by omega) fun Z3 g3 h3 => ?_
  refine acc_step (j := 3) h3 (by omega) fun Z4 g4 h4 => ?_
  refine acc_step (j := 4) h4 (by omega) fun Z5 g5 h5 => ?_
  refine acc_step (j := 5) h5 (by omega) fun Z6 g6 h6 => ?_
  refine acc_step (j := 6) h6 (by omega) fun Z7 g7 h7 => ?_
  refine acc_step (j := 7) h7 (by omega) fun Z8 g8 h8 => ?_
  refine acc_step (j := 8) h8 (by omega) fun Z9 g9 h9 => ?_
  refine acc_step (j := 9) h9 (by omega) fun Z10 g10 h10 => ?_
  refine acc_step (j := 10) h10 (by omega) fun Z11 g11 h11 => ?_
  refine acc_step (j := 11) h11 (by omega) fun Z12 g12 h12 => ?_
  refine acc_step (j := 12) h12 (by omega) fun Z13 g13 h13 => ?_
  refine acc_step (j := 13) h13 (by omega) fun Z14 g14 h14 => ?_
  refine acc_step (j := 14) h14 (by omega) fun Z15 g15 h15 => ?_
  refine acc_step (j := 15) h15 (by omega) fun Z16 g16 h16 => ?_
  refine acc_step (j := 16) h16 (by omega) fun Z17 g17 h17 => ?_
  refine acc_step (j := 17) h17 (by omega) fun Z18 g18 h18 => ?_
  refine acc_step (j := 18) h18 (by omega) fun Z19 g19 h19 => ?_
  refine acc_step (j := 19) h19 (by omega) fun Z20 g20 h20 => ?_
  obtain ⟨a1, a2, a3, a4, a5⟩ := h20
  have hM : MZ Z20 m := ⟨a1, (a2 0 (by omega)).1, (a2 0 (by omega)).2.1, (a2 0 (by omega)).2.2, (a2 1 (by omega)).1, (a2 1 (by omega)).2.1, (a2 1 (by omega)).2.2, (a2 2 (by omega)).1, (a2 2 (by omega)).2.1, (a2 2 (by omega)).2.2, (a2 3 (by omega)).1, (a2 3 (by omega)).2.1, (a2 3 (by omega)).2.2, (a2 4 (by omega)).1, (a2 4 (by omega)).2.1, (a2 4 (by omega)).2.2, (a2 5 (by omega)).1, (a2 5 (by omega)).2.1, (a2 5 (by omega)).2.2, (a2 6 (by omega)).1, (a2 6 (by omega)).2.1, (a2 6 (by omega)).2.2, (a2 7 (by omega)).1, (a2 7 (by omega)).2.1, (a2 7 (by omega)).2.2, (a2 8 (by omega)).1, (a2 8 (by omega)).2.1, (a2 8 (by omega)).2.2, (a2 9 (by omega)).1, (a2 9 (by omega)).2.1, (a2 9 (by omega)).2.2, (a2 10 (by omega)).1, (a2 10 (by omega)).2.1, (a2 10 (by omega)).2.2, (a2 11 (by omega)).1, (a2 11 (by omega)).2.1, (a2 11 (by omega)).2.2, (a2 12 (by omega)).1, (a2 12 (by omega)).2.1, (a2 12 (by omega)).2.2, (a2 13 (by omega)).1, (a2 13 (by omega)).2.1, (a2 13 (by omega)).2.2, (a2 14 (by omega)).1, (a2 14 (by omega)).2.1, (a2 14 (by omega)).2.2, (a2 15 (by omega)).1, (a2 15 (by omega)).2.1, (a2 15 (by omega)).2.2, (a2 16 (by omega)).1, (a2 16 (by omega)).2.1, (a2 16 (by omega)).2.2, (a2 17 (by omega)).1, (a2 17 (by omega)).2.1, (a2 17 (by omega)).2.2, (a2 18 (by omega)).1, (a2 18 (by omega)).2.1, (a2 18 (by omega)).2.2, (a2 19 (by omega)).1, (a2 19 (by omega)).2.1, (a2 19 (by omega)).2.2⟩
  obtain ⟨g', q1, q2, q3⟩ := i_l173 (n := n) (hs := m + 1) (m := m) (Z := Z20) hM.k hM.f0 hM.k0 hM.l0 4 0 n g20 (by omega) (by omega) (by omega) (fun t ht => by
    rw [if_neg (Nat.not_lt_zero _)]
    exact a5 (by omega) t)
  have z0 : ∀ j, gI g' m j = 0 := fun j => by
    rw [q3.i (by omega), a4.i (by omega)]; exact hz j
  refine ⟨(Z20, g'), q1, hM, ⟨fun j hj => ?_, ⟨z0 2, Nat.zero_le _, fun i hi => absurd hi (Nat.not_lt_zero _)⟩, ⟨z0 4, fun j hj => absurd hj (Nat.not_lt_zero _)⟩, ⟨z0 31, fun j hj => absurd hj (Nat.not_lt_zero _)⟩, Or.inl (z0 26)⟩, a3, (a4.mono (by omega) (by omega)).trans (q3.fr fun b j z => by omega)⟩
  show gI g' (m + 1) j = nI (bI j)
  rw [q2 j hj]; unfold bI; by_cases w : j < 4
  · rw [if_pos w, if_pos w]; rfl
  · rw [if_neg w, if_neg w]; rfl
end X11I

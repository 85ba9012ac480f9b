/-! THE CLASS READS A HEAD -/
def DOk (due : List Nat) : Prop := ∀ x ∈ due, x = 41 ∨ x = 44 ∨ x = 113
theorem nar_due {x : Nat} (h : x = 41 ∨ x = 44 ∨ x = 113) : vp_nar .char (nI x) = nI x := by
  rcases h with h | h | h <;> subst h <;> decide +kernel
theorem DOk.cons {x : Nat} {due : List Nat} (hx : x = 41 ∨ x = 44 ∨ x = 113) (h : DOk due) : DOk (x :: due) := fun y hy => by
  rcases List.mem_cons.mp hy with z | z
  · subst z; exact hx
  · exact h y z
theorem QIs.ch {P : Nat → Nat → Prop} {g g' : Mem} {q : Nat} {pre : List Nd} (h : QIs g q pre) (hF : Ch P g g') (hP : ¬ P q 6 ∧ ∀ b j, b = q + 1 ∨ b = q + 2 ∨ b = q + 3 → ¬ P b j) : QIs g' q pre := by
  refine ⟨(hF.i hP.1).trans h.1, h.2.1, fun k hk => ?_⟩
  have := h.2.2 k hk
  exact ⟨(hF.i (hP.2 _ _ (Or.inl rfl))).trans this.1, (hF.i (hP.2 _ _ (Or.inr (Or.inl rfl)))).trans this.2.1, (hF.i (hP.2 _ _ (Or.inr (Or.inr rfl)))).trans this.2.2⟩
theorem LIs.ch {P : Nat → Nat → Prop} {g g' : Mem} {l len : Nat} {T : Nat → Nat} (h : LIs g l len T) (hF : Ch P g g') (hP : ∀ b j, b = l ∨ b = l + 1 → ¬ P b j) : LIs g' l len T :=
  ⟨(hF.i (hP _ _ (Or.inl rfl))).trans h.1, fun k hk => (hF.i (hP _ _ (Or.inr rfl))).trans (h.2 k hk)⟩
theorem cp_push {n : Nat} {Z : Zt} {q l len p x : Nat} {T : Nat → Nat} {due : List Nat} {pre : List Nd} {g : Mem} (hZ : QZ Z q) (hd : l + 2 ≤ q ∨ q + 6 ≤ l) (h : CP g q l len T p due pre) (hx : x = 41 ∨ x = 44 ∨ x = 113) (hl : due.length < 120) : ∃ g', f_X6_push n Z q (nI x) g = some ((), g') ∧ CP g' q l len T p (x :: due) pre ∧ Fr q (q + 6) g g' := by
  obtain ⟨h1, h2, h3, h4, h5, h6, h7⟩ := h
  have hF : Ch (fun b j => (b = q ∧ j = 8) ∨ (b = q + 5 ∧ j = due.length)) g (sI (sI g (q + 5) due.length (nI x)) q 8 (nI (due.length + 1))) := (Ch.rfl.sI (Or.inr ⟨rfl, rfl⟩)).sI (Or.inl ⟨rfl, rfl⟩)
  refine ⟨sI (sI g (q + 5) due.length (nI x)) q 8 (nI (due.length + 1)), ?_, ⟨h1, h2.ch hF ⟨by omega, fun b j hb => by omega⟩, (hF.i (by omega)).trans h3, h4, by rw [gI_sI, if_pos ⟨rfl, rfl⟩, List.length_cons], ⟨?_, h6.ch hF fun j hj => by omega⟩, h7.ch hF fun b j hb => by omega⟩, (Fr.rfl.sI (by omega) (by omega)).sI (by omega) (by omega)⟩
  · unfold f_X6_push
    rw [grd_t hZ.k, h5, if_neg (show ¬ nI due.length < 0 from fun z => nI_nlt (a := due.length) (b := 0) (Nat.zero_le _) (by omega) z), if_neg (show ¬ (120 : Int32) ≤ nI due.length from fun z => by have := (nle (a := 120) (by omega) (by omega)).mp z; omega), nar_due hx]
    simp (disch := omega) only [hZ.f4, hZ.k4, hZ.l4, drf_s, grd_t, grd_true, inr_eq, clamp, gI_sI, if_neg, h5, nI_1]
  · show gI _ (q + 5) due.length = nI x
    rw [gI_sI, if_neg (by omega), gI_sI, if_pos ⟨rfl, rfl⟩]
theorem cp_pop {n : Nat} {Z : Zt} {q l len p x : Nat} {T : Nat → Nat} {due : List Nat} {pre : List Nd} {g : Mem} (hZ : QZ Z q) (hd : l + 2 ≤ q ∨ q + 6 ≤ l) (h : CP g q l len T p (x :: due) pre) (hx : x = 41 ∨ x = 44 ∨ x = 113) (hl : due.length < 120) : ∃ g', f_X6_pop n Z q g = some (nI x, g') ∧ CP g' q l len T p due pre ∧ Fr q (q + 6) g g' := by
  obtain ⟨h1, h2, h3, h4, h5, h6, h7⟩ := h
  have h5 : gI g q 8 = nI (due.length + 1) := by rw [h5, List.length_cons]
  have hF : Ch (fun b j => b = q ∧ j = 8) g (sI g q 8 (nI due.length)) := Ch.rfl.sI ⟨rfl, rfl⟩
  refine ⟨sI g q 8 (nI due.length), ?_, ⟨h1, h2.ch hF ⟨by omega, fun b j hb => by omega⟩, (hF.i (by omega)).trans h3, h4, by rw [gI_sI, if_pos ⟨rfl, rfl⟩], h6.2.ch hF fun j hj => by omega, h7.ch hF fun b j hb => by omega⟩, Fr.rfl.sI (by omega) (by omega)⟩
  have e1 : nI (due.length + 1) - (1 : Int32) = nI due.length := subN (a := due.length + 1) (b := 1) (by omega)
  have k1 : gI (sI g q 8 (nI due.length)) q 8 = nI due.length := by rw [gI_sI, if_pos ⟨rfl, rfl⟩]
  have k2 : gI (sI g q 8 (nI due.length)) (q + 5) due.length = nI x := by rw [gI_sI, if_neg (by omega)]; exact h6.1
  unfold f_X6_pop
  rw [grd_t hZ.k, h5, if_neg (show ¬ nI (due.length + 1) ≤ 0 from fun z => by have := (nle (b := 0) (by omega) (by omega)).mp z; omega), if_pos (show nI (due.length + 1) ≤ (120 : Int32) from (nle (b := 120) (by omega) (by omega)).mpr (by omega)), e1]
  simp (disch := omega) only [hZ.f4, hZ.k4, hZ.l4, drf_s, grd_t, grd_true, inr_eq, clamp, k1, k2, nar_due hx]
def dueNd (nd : Nd) : List Nat := if ar nd.1 = 0 then [] else if ar nd.1 = 1 then [113, 41] else [113, 44, 113, 41]
theorem getD_append_left' {α : Type} {l m : List α} {k : Nat} {d : α} (h : k < l.length) : (l ++ m).getD k d = l.getD k d := by
  induction l generalizing k with
  | nil => exact absurd h (Nat.not_lt_zero _)
  | cons x l ih => cases k with
    | zero => rfl
    | succ k => exact ih (by simpa using h)
theorem getD_append_right' {α : Type} {l : List α} {x d : α} : (l ++ [x]).getD l.length d = x := by
  induction l with
  | nil => rfl
  | cons y l ih => exact ih
theorem QIs.add {g g' : Mem} {q : Nat} {pre : List Nd} {nd : Nd} (h : QIs g q pre) (hl : pre.length < 60) (hF : Ch (fun b j => (b = q ∧ j = 6) ∨ ((b = q + 1 ∨ b = q + 2 ∨ b = q + 3) ∧ j = pre.length)) g g') (h6 : gI g' q 6 = nI (pre.length + 1)) (h1 : gI g' (q + 1) pre.length = nI nd.1) (h2 : gI g' (q + 2) pre.length = nI nd.2.1) (h3 : gI g' (q + 3) pre.length = nI (cSec nd)) : QIs g' q (pre ++ [nd]) := by
  refine ⟨by rw [h6, List.length_append]; rfl, by rw [List.length_append]; simp only [List.length_singleton]; omega, fun k hk => ?_⟩
  rw [List.length_append, List.length_singleton] at hk
  by_cases hkp : k < pre.length
  · have := h.2.2 k hkp
    rw [getD_append_left' hkp]
    exact ⟨(hF.i (by omega)).trans this.1, (hF.i (by omega)).trans this.2.1, (hF.i (by omega)).trans this.2.2⟩
  · have hke : k = pre.length := by omega
    subst hke
    rw [getD_append_right']
    exact ⟨h1, h2, h3⟩
theorem cp_add {n : Nat} {Z : Zt} {q l len p : Nat} {T : Nat → Nat} {due : List Nat} {pre : List Nd} {nd : Nd} {g : Mem} (hZ : QZ Z q) (hd : l + 2 ≤ q ∨ q + 6 ≤ l) (h : CP g q l len T p due pre) (hN : NOk nd) (hl : due.length < 116) (hp : pre.length < 60) : ∃ g', f_X6_addNode n Z q (nI nd.1) (nI nd.2.1) (nI (cSec nd)) g = some (1, g') ∧ CP g' q l len T p (dueNd nd ++ due) (pre ++ [nd]) ∧ Fr q (q + 6) g g' := by
  obtain ⟨h1, h2, h3, h4, h5, h6, h7⟩ := h
  obtain ⟨g1, hg1⟩ : ∃ g1, g1 = sI (sI (sI (sI g (q + 1) pre.length (nI nd.1)) (q + 2) pre.length (nI nd.2.1)) (q + 3) pre.length (nI (cSec nd))) q 6 (nI (pre.length + 1)) := ⟨_, rfl⟩
  have hF : Ch (fun b j => (b = q ∧ j = 6) ∨ ((b = q + 1 ∨ b = q + 2 ∨ b = q + 3) ∧ j = pre.length)) g g1 := hg1 ▸ (((Ch.rfl.sI (Or.inr ⟨Or.inl rfl, rfl⟩)).sI (Or.inr ⟨Or.inr (Or.inl rfl), rfl⟩)).sI (Or.inr ⟨Or.inr (Or.inr rfl), rfl⟩)).sI (Or.inl ⟨rfl, rfl⟩)
  have hFr : Fr q (q + 6) g g1 := hg1 ▸ (((Fr.rfl.sI (by omega) (by omega)).sI (by omega) (by omega)).sI (by omega) (by omega)).sI (by omega) (by omega)
  have hC : CP g1 q l len T p due (pre ++ [nd]) := by
    refine ⟨(hF.p (by omega)).trans h1, h2.add hp hF ?_ ?_ ?_ ?_, (hF.i (by omega)).trans h3, h4, (hF.i (by omega)).trans h5, h6.ch hF fun j hj => by omega, h7.ch hF fun b j hb => by omega⟩ <;> rw [hg1] <;> simp (disch := omega) only [gI_sI, if_pos, if_neg, true_and, and_true, and_self, ↓reduceIte]
  have hq6 := h2.1
  have e0 : f_X6_addNode n Z q (nI nd.1) (nI nd.2.1) (nI (cSec nd)) g = if nI (ar nd.1) ≤ 0 then f_X6_addNode_l81 n Z q (nI (ar nd.1)) g1 else bnd (f_X6_push n Z q (nI 41) g1) fun _ g20 => bnd (f_X6_push n Z q (nI 113) g20) fun _ g23 => f_X6_addNode_l81 n Z q (nI (ar nd.1)) g23 := by
    unfold f_X6_addNode
    rw [grd_t hZ.k, hq6, if_neg (show ¬ nI pre.length < 0 from fun z => nI_nlt (a := pre.length) (b := 0) (Nat.zero_le _) (by omega) z), if_pos (show nI pre.length < (60 : Int32) from (nlt (b := 60) (by omega) (by omega)).mpr hp)]
    simp (disch := omega) only [hZ.f0, hZ.k0, hZ.l0, hZ.f1, hZ.k1, hZ.l1, hZ.f2, hZ.k2, hZ.l2, drf_s, grd_t, grd_true, inr_eq, clamp, gI_sI, if_neg, hq6, nI_1]
    rw [← hg1, q_parts hN.k, bnd_s]
    rfl
  have hal : ar nd.1 = 0 ∨ ar nd.1 = 1 ∨ ar nd.1 = 2 := ar_cases nd
  rw [e0]
  rcases hal with ha | ha | ha
  · refine ⟨g1, ?_, ?_, hFr⟩
    · rw [ha, if_pos (by decide)]; unfold f_X6_addNode_l81; rw [if_pos (by decide)]
    · unfold dueNd; rw [if_pos ha]; exact hC
  · obtain ⟨g2, a1, a2, a3⟩ := cp_push (n := n) (x := 41) hZ hd hC (Or.inl rfl) (by omega)
    obtain ⟨g3, b1, b2, b3⟩ := cp_push (n := n) (x := 113) hZ hd a2 (Or.inr (Or.inr rfl)) (by rw [List.length_cons]; omega)
    refine ⟨g3, ?_, ?_, (hFr.trans a3).trans b3⟩
    · rw [ha, if_neg (by decide), a1, bnd_s, b1, bnd_s]; unfold f_X6_addNode_l81; rw [if_pos (by decide)]
    · unfold dueNd; rw [if_neg (by omega), if_pos ha]; exact b2
  · obtain ⟨g2, a1, a2, a3⟩ := cp_push (n := n) (x := 41) hZ hd hC (Or.inl rfl) (by omega)
    obtain ⟨g3, b1, b2, b3⟩ := cp_push (n := n) (x := 113) hZ hd a2 (Or.inr (Or.inr rfl)) (by rw [List.length_cons]; omega)
    obtain ⟨g4, c1, c2, c3⟩ := cp_push (n := n) (x := 44) hZ hd b2 (Or.inr (Or.inl rfl)) (by rw [List.length_cons, List.length_cons]; omega)
    obtain ⟨g5, d1, d2, d3⟩ := cp_push (n := n) (x := 113) hZ hd c2 (Or.inr (Or.inr rfl)) (by rw [List.length_cons, List.length_cons, List.length_cons]; omega)
    refine ⟨g5, ?_, ?_, (((hFr.trans a3).trans b3).trans c3).trans d3⟩
    · rw [ha, if_neg (by decide), a1, bnd_s, b1, bnd_s]; unfold f_X6_addNode_l81
      rw [if_neg (by decide)]
      show bnd (f_X6_push n Z q (nI 44) g3) _ = _
      rw [c1, bnd_s]
      show bnd (f_X6_push n Z q (nI 113) g4) _ = _
      rw [d1, bnd_s]
    · unfold dueNd; rw [if_neg (by omega), if_neg (by omega)]; exact d2

/-! THE HISTORY (the class) -/
def b0 : Nat → Nat := fun _ => 0
def HsIs (g : Mem) (h : Nat) (σ : Nat → Nat) (hb : List (Nat → Nat)) : Prop := gI g h 1 = nI hb.length ∧ hb.length ≤ 4 ∧ (∀ j, j < 4 → gP g (h + 1) j = some (h + 2 + 8 * σ j) ∧ σ j < 4) ∧ (∀ i j, i < 4 → j < 4 → σ i = σ j → i = j) ∧ ∀ i, i < hb.length → StIs g (h + 2 + 8 * σ i) (hb.getD i b0)
theorem HsIs.fr {g g' : Mem} {h lo hi : Nat} {σ : Nat → Nat} {hb : List (Nat → Nat)} (hh : HsIs g h σ hb) (hF : Fr lo hi g g') (h1 : h + 34 ≤ lo ∨ hi ≤ h) : HsIs g' h σ hb :=
  ⟨(hF.i (by omega) _).trans hh.1, hh.2.1, fun j hj => ⟨(hF.p (by omega) _).trans (hh.2.2.1 j hj).1, (hh.2.2.1 j hj).2⟩, hh.2.2.2.1, fun i hi => (hh.2.2.2.2 i hi).fr hF (by have := (hh.2.2.1 i (by have := hh.2.1; omega)).2; omega)⟩
theorem h_put {n : Nat} {Z : Zt} {h s : Nat} {σ : Nat → Nat} {hb : List (Nat → Nat)} {b : Nat → Nat} {g : Mem} (hn : 100 ≤ n) (hZ : HZ Z h) (hZs : SZ Z s) (hB : BOk b) (hd : s + 8 ≤ h ∨ h + 34 ≤ s) (hH : HsIs g h σ hb) (hl : hb.length < 4) (hS : StIs g s b) : ∃ g', f_X1_record_l17 n Z h s g = some ((), g') ∧ HsIs g' h σ (hb ++ [b]) ∧ Fr h (h + 34) g g' := by
  obtain ⟨h1, h2, h3, h4, h5⟩ := id hH
  obtain ⟨q1, q2⟩ := h3 hb.length hl
  obtain ⟨g1, a1, a2, a3⟩ := s_copy (n := n) (a := h + 2 + 8 * σ hb.length) hn (hZ.2 _ q2) hZs hB (by omega) hS
  have A3 : Fr h (h + 34) g g1 := a3.mono (by omega) (by omega)
  have hlen : (hb ++ [b]).length = hb.length + 1 := by rw [List.length_append]; rfl
  refine ⟨sI g1 h 1 (nI (hb.length + 1)), ?_, ⟨by rw [gI_sI, if_pos ⟨rfl, rfl⟩, hlen], by omega, fun j hj => ⟨?_, (h3 j hj).2⟩, h4, fun i hi => ?_⟩, A3.sI (by omega) (by omega)⟩
  · unfold f_X1_record_l17
    rw [h1, if_neg (fun q => by rw [not_neg (by omega)] at q; exact q), hZ.1.f0, drf_s]
    simp (disch := omega) only [hZ.1.k0, hZ.1.l0, grd_t, grd_true, inr_eq, clamp, nam_s, q1]
    unfold f_X1_record_l37
    rw [if_neg (by simp), drf_s, a1, bnd_s, a3.i (by omega), h1, nI_1]
  · have hσ := (h3 hb.length hl).2
    rw [gP_sI, a3.p (by omega)]; exact (h3 j hj).1
  · rw [hlen] at hi
    have hF : Fr h (h + 1) g1 (sI g1 h 1 (nI (hb.length + 1))) := Fr.rfl.sI (by omega) (by omega)
    by_cases z : i = hb.length
    · subst z
      have e : (hb ++ [b]).getD hb.length b0 = b := by simp [List.getD]
      rw [e]
      exact a2.fr hF (by omega)
    · have e : (hb ++ [b]).getD i b0 = hb.getD i b0 := getD_app_l (by omega)
      rw [e]
      have hne : σ i ≠ σ hb.length := fun q => z (h4 i hb.length (by omega) hl q)
      have h6 := (h5 i (by omega)).fr a3 (by omega)
      exact h6.fr hF (by omega)
theorem h_move9 {n : Nat} {Z : Zt} {h : Nat} {σ : Nat → Nat} {g0 : Mem} (hZ : HZ Z h) (h3 : ∀ j, j < 4 → gP g0 (h + 1) j = some (h + 2 + 8 * σ j) ∧ σ j < 4) : ∀ (d k fu : Nat) (g : Mem), d = 4 - k → 1 ≤ k → k ≤ 4 → d < fu → Ch (fun b _ => b = h + 1) g0 g → (∀ j, j < 4 → gP g (h + 1) j = if j + 1 < k then gP g0 (h + 1) (j + 1) else gP g0 (h + 1) j) → ∃ g', f_X1_moveOldestToEnd_l9 n Z h fu (some (h + 2 + 8 * σ 0)) (nI k) g = some ((), g') ∧ (∀ j, j < 4 → gP g' (h + 1) j = if j = 3 then gP g0 (h + 1) 0 else gP g0 (h + 1) (j + 1)) ∧ Ch (fun b _ => b = h + 1) g0 g' := by
  intro d
  induction d with
  | zero =>
    intro k fu g h1 h2 h4 h5 h6 h7
    obtain ⟨fu, rfl⟩ : ∃ q, fu = q + 1 := ⟨fu - 1, by omega⟩
    have hk : k = 4 := by omega
    subst hk
    have hz0 := (hZ.2 _ (h3 0 (by omega)).2).1.k
    refine ⟨sP g (h + 1) 3 (some (h + 2 + 8 * σ 0)), ?_, fun j hj => ?_, h6.sP rfl⟩
    · unfold f_X1_moveOldestToEnd_l9
      rw [if_pos (show (4 : Int32) ≤ nI 4 by decide), hZ.1.f0, drf_s, drf_s, grd_t hZ.1.k0, grd_t hz0, hZ.1.l0, grd_t (show inr (3 : Int32) 4 by decide)]
      rfl
    · rw [gP_sP]
      by_cases z : j = 3
      · rw [if_pos ⟨rfl, z⟩, if_pos z, (h3 0 (by omega)).1]
      · rw [if_neg (fun w => z w.2), if_neg z, h7 j hj, if_pos (by omega)]
  | succ d ih =>
    intro k fu g h1 h2 h4 h5 h6 h7
    obtain ⟨fu, rfl⟩ : ∃ q, fu = q + 1 := ⟨fu - 1, by omega⟩
    have hzk := (hZ.2 _ (h3 k (by omega)).2).1.k
    have ek : gP g (h + 1) k = some (h + 2 + 8 * σ k) := by rw [h7 k (by omega), if_neg (by omega), (h3 k (by omega)).1]
    have e1 : nI k - (1 : Int32) = nI (k - 1) := subN (a := k) (b := 1) (by omega)
    unfold f_X1_moveOldestToEnd_l9
    rw [if_neg (show ¬ (4 : Int32) ≤ nI k from fun q => by have := (nle (a := 4) (by omega) (by omega)).mp q; omega), hZ.1.f0, drf_s, drf_s, e1]
    simp (disch := omega) only [hZ.1.k0, hZ.1.l0, grd_t, grd_true, inr_eq, clamp, nam_s, ek, drf_s, hzk, nI_1]
    refine ih (k + 1) fu _ (by omega) (by omega) (by omega) (by omega) (h6.sP rfl) fun j hj => ?_
    rw [gP_sP]
    by_cases z : j = k - 1
    · rw [if_pos ⟨rfl, z⟩, if_pos (by omega), show j + 1 = k by omega, (h3 k (by omega)).1]
    · rw [if_neg (fun w => z w.2), h7 j hj]
      by_cases w : j + 1 < k
      · rw [if_pos w, if_pos (by omega)]
      · rw [if_neg w, if_neg (by omega)]
def rec4 (hb : List (Nat → Nat)) (b : Nat → Nat) : List (Nat → Nat) := (if hb.length = 4 then hb.drop 1 else hb) ++ [b]
theorem h_record {n : Nat} {Z : Zt} {h s : Nat} {σ : Nat → Nat} {hb : List (Nat → Nat)} {b : Nat → Nat} {g : Mem} (hn : 100 ≤ n) (hZ : HZ Z h) (hZs : SZ Z s) (hB : BOk b) (hd : s + 8 ≤ h ∨ h + 34 ≤ s) (hH : HsIs g h σ hb) (hS : StIs g s b) : ∃ g' σ', f_X1_record n Z h s g = some ((), g') ∧ HsIs g' h σ' (rec4 hb b) ∧ Fr h (h + 34) g g' := by
  obtain ⟨h1, h2, h3, h4, h5⟩ := id hH
  by_cases hl : hb.length < 4
  · obtain ⟨g', a1, a2, a3⟩ := h_put hn hZ hZs hB hd hH hl hS
    refine ⟨g', σ, ?_, ?_, a3⟩
    · unfold f_X1_record
      rw [grd_t hZ.1.k, h1, if_pos ((nltL (by omega) (by omega)).mpr hl)]
      exact a1
    · unfold rec4; rw [if_neg (by omega)]; exact a2
  · have hl4 : hb.length = 4 := by omega
    obtain ⟨g1, a1, a2, a3⟩ := h_move9 (n := n) (g0 := g) hZ h3 3 1 n g (by omega) (by omega) (by omega) (by omega) Ch.rfl (fun j hj => by rw [if_neg (by omega)])
    have A3 : Fr h (h + 34) g g1 := a3.fr fun b j q => by omega
    obtain ⟨g2, e2⟩ : ∃ g2, g2 = sI g1 h 1 (3 : Int32) := ⟨_, rfl⟩
    have F2 : Fr h (h + 34) g g2 := by rw [e2]; exact A3.sI (by omega) (by omega)
    have C2 : Ch (fun b _ => b = h ∨ b = h + 1) g g2 := by rw [e2]; exact (a3.mono fun b j q => Or.inr q).sI (Or.inl rfl)
    have hdl : (hb.drop 1).length = 3 := by rw [List.length_drop]; omega
    have hH2 : HsIs g2 h (fun j => if j = 3 then σ 0 else σ (j + 1)) (hb.drop 1) := by
      refine ⟨by rw [e2, gI_sI, if_pos ⟨rfl, rfl⟩, hdl]; rfl, by omega, fun j hj => ?_, fun i j hi hj e => ?_, fun i hi => ?_⟩
      · rw [e2, gP_sI, a2 j hj]
        dsimp only
        by_cases z : j = 3
        · rw [if_pos z, if_pos z]; exact h3 0 (by omega)
        · rw [if_neg z, if_neg z]; exact h3 (j + 1) (by omega)
      · dsimp only at e
        by_cases z : i = 3
        · by_cases w : j = 3
          · omega
          · rw [if_pos z, if_neg w] at e
            have := h4 0 (j + 1) (by omega) (by omega) e; omega
        · by_cases w : j = 3
          · rw [if_neg z, if_pos w] at e
            have := h4 (i + 1) 0 (by omega) (by omega) e; omega
          · rw [if_neg z, if_neg w] at e
            have := h4 (i + 1) (j + 1) (by omega) (by omega) e; omega
      · rw [hdl] at hi
        dsimp only
        rw [if_neg (by omega), drop_get, show 1 + i = i + 1 by omega]
        have hσ := (h3 (i + 1) (by omega)).2
        exact (h5 (i + 1) (by omega)).fr (lo := h) (hi := h + 2) (C2.fr fun b j q => by omega) (by omega)
    obtain ⟨g', b1, b2, b3⟩ := h_put hn hZ hZs hB hd hH2 (by omega) (hS.fr F2 (by omega))
    refine ⟨g', fun j => if j = 3 then σ 0 else σ (j + 1), ?_, ?_, F2.trans b3⟩
    · unfold f_X1_record
      rw [grd_t hZ.1.k, h1, if_neg (fun q => by have := (nlt (b := 4) (by omega) (by omega)).mp q; exact hl this)]
      unfold f_X1_moveOldestToEnd
      rw [grd_t hZ.1.k, hZ.1.f0, drf_s, grd_t hZ.1.k0, hZ.1.l0, grd_t (show inr (0 : Int32) 4 by decide), nam_s, show (0 : Int32).toNatClampNeg = 0 from rfl, (h3 0 (by omega)).1]
      rw [show (1 : Int32) = nI 1 from rfl, a1, bnd_s, ← e2]
      exact b1
    · unfold rec4; rw [if_pos hl4]; exact b2
theorem h_take {n : Nat} {Z : Zt} {h : Nat} {σ : Nat → Nat} {hb : List (Nat → Nat)} {g : Mem} (hZ : HZ Z h) (hH : HsIs g h σ hb) (hl : 0 < hb.length) : f_X1_takeLatest n Z h g = some (some (h + 2 + 8 * σ (hb.length - 1)), sI g h 1 (nI (hb.length - 1))) ∧ HsIs (sI g h 1 (nI (hb.length - 1))) h σ (hb.take (hb.length - 1)) ∧ StIs (sI g h 1 (nI (hb.length - 1))) (h + 2 + 8 * σ (hb.length - 1)) (hb.getD (hb.length - 1) b0) ∧ Fr h (h + 34) g (sI g h 1 (nI (hb.length - 1))) := by
  obtain ⟨h1, h2, h3, h4, h5⟩ := id hH
  have hF : Fr h (h + 1) g (sI g h 1 (nI (hb.length - 1))) := Fr.rfl.sI (by omega) (by omega)
  have htl : (hb.take (hb.length - 1)).length = hb.length - 1 := by rw [List.length_take]; omega
  refine ⟨?_, ⟨by rw [gI_sI, if_pos ⟨rfl, rfl⟩, htl], by omega, h3, h4, fun i hi => ?_⟩, ?_, hF.mono (by omega) (by omega)⟩
  · unfold f_X1_takeLatest
    have e1 : nI hb.length - (1 : Int32) = nI (hb.length - 1) := subN (a := hb.length) (b := 1) (by omega)
    rw [grd_t hZ.1.k, h1, if_neg (fun q => by have := (nle (b := 0) (by omega) (by omega)).mp q; omega), if_pos (show nI hb.length ≤ (4 : Int32) from (nle (b := 4) (by omega) (by omega)).mpr h2), hZ.1.f0, drf_s, e1]
    rw [gI_sI, if_pos ⟨rfl, rfl⟩]
    simp (disch := omega) only [hZ.1.k0, hZ.1.l0, grd_t, grd_true, inr_eq, clamp, nam_s]
    rw [gP_sI, (h3 (hb.length - 1) (by omega)).1]
  · rw [htl] at hi
    have e : (hb.take (hb.length - 1)).getD i b0 = hb.getD i b0 := by
      simp only [List.getD, List.getElem?_take, if_pos hi]
    rw [e]
    exact (h5 i (by omega)).fr hF (by omega)
  · exact (h5 _ (by omega)).fr hF (by omega)
theorem h_none {n : Nat} {Z : Zt} {h : Nat} {σ : Nat → Nat} {hb : List (Nat → Nat)} {g : Mem} (hZ : HZ Z h) (hH : HsIs g h σ hb) (hl : hb.length = 0) : f_X1_takeLatest n Z h g = some (none, g) := by
  unfold f_X1_takeLatest
  rw [grd_t hZ.1.k, hH.1, hl, if_pos (by decide)]
theorem h_size {n : Nat} {Z : Zt} {h : Nat} {σ : Nat → Nat} {hb : List (Nat → Nat)} {g : Mem} (hZ : HZ Z h) (hH : HsIs g h σ hb) : f_X1_size n Z h g = some (nI hb.length, g) := by
  unfold f_X1_size
  rw [grd_t hZ.1.k, hH.1]

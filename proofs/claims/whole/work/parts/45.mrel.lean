/-! THE REFERENCE's RELATIONS -/
/-- the places of a row of the pile -/
def pR (m R b j : Nat) : Prop := ((b = m + 14 ∨ b = m + 15) ∧ j = R) ∨ ((b = m + 16 ∨ b = m + 17) ∧ 32 * R ≤ j ∧ j < 32 * R + 32)
/-- .. of a relation of the pile, and the sign that it is too large -/
def pQ (m ρ b j : Nat) : Prop := (b = m ∧ j = 25) ∨ ((b = m + 12 ∨ b = m + 13) ∧ j = ρ) ∨ ((b = m + 14 ∨ b = m + 15) ∧ 32 * ρ ≤ j ∧ j < 32 * ρ + 32) ∨ ((b = m + 16 ∨ b = m + 17) ∧ 1024 * ρ ≤ j ∧ j < 1024 * ρ + 1024)
/-- .. of its rows from one on -/
theorem pR_Q {m ρ r b j : Nat} (hr : r < 32) (h : pR m (32 * ρ + r) b j) : pQ m ρ b j := by
  unfold pR at h; unfold pQ; omega
theorem pT_Q {m ρ r b j : Nat} (hr : r < 32) (h : pT m (32 * ρ + r) b j) : pQ m ρ b j := by
  unfold pT at h; unfold pQ; omega
def RowAt (g : Mem) (m R : Nat) (x : Nat × Pol) : Prop := gI g (m + 14) R = nI x.1 ∧ x.1 < 2147483648 ∧ MIs g m R x.2
/-- a relation of the pile -/
def MR (g : Mem) (m ρ w : Nat) (rows : Rws) : Prop := gI g (m + 12) ρ = nI w ∧ gI g (m + 13) ρ = nI rows.length ∧ rows.length ≤ 32 ∧ ∀ k, k < rows.length → RowAt g m (32 * ρ + k) (rows.getD k (0, []))
theorem MIs.ch {P : Nat → Nat → Prop} {g g' : Mem} {m R : Nat} {xs : Pol} (h : MIs g m R xs) (hF : Ch P g g') (hP : ∀ b j, pT m R b j → ¬ P b j) : MIs g' m R xs := by
  obtain ⟨h1, h2, h3⟩ := h
  refine ⟨(hF.i (hP _ _ (Or.inl ⟨rfl, rfl⟩))).trans h1, h2, fun k hk => ?_⟩
  have := h3 k hk
  exact ⟨(hF.j (hP _ _ (Or.inr ⟨Or.inl rfl, by omega, by omega⟩))).trans this.1, (hF.j (hP _ _ (Or.inr ⟨Or.inr rfl, by omega, by omega⟩))).trans this.2⟩
theorem RowAt.ch {P : Nat → Nat → Prop} {g g' : Mem} {m R : Nat} {x : Nat × Pol} (h : RowAt g m R x) (hF : Ch P g g') (hP : ∀ b j, pR m R b j → ¬ P b j) : RowAt g' m R x :=
  ⟨(hF.i (hP _ _ (Or.inl ⟨Or.inl rfl, rfl⟩))).trans h.1, h.2.1, h.2.2.ch hF fun b j q => hP b j (by unfold pT at q; unfold pR; omega)⟩
theorem MR.ch {P : Nat → Nat → Prop} {g g' : Mem} {m ρ w : Nat} {rows : Rws} (h : MR g m ρ w rows) (hF : Ch P g g') (hP : ∀ b j, pQ m ρ b j → b ≠ m → ¬ P b j) : MR g' m ρ w rows := by
  obtain ⟨h1, h2, h3, h4⟩ := h
  exact ⟨(hF.i (hP _ _ (Or.inr (Or.inl ⟨Or.inl rfl, rfl⟩)) (by omega))).trans h1, (hF.i (hP _ _ (Or.inr (Or.inl ⟨Or.inr rfl, rfl⟩)) (by omega))).trans h2, h3, fun k hk => (h4 k hk).ch hF fun b j q => hP b j (pR_Q (by omega) q) (by unfold pR at q; omega)⟩
/-- a row changes, and nothing else -/
theorem MR.set {g g' : Mem} {m ρ w r : Nat} {rows : Rws} {x : Nat × Pol} (h : MR g m ρ w rows) (hr : r < rows.length) (hx : RowAt g' m (32 * ρ + r) x) (hF : Ch (pR m (32 * ρ + r)) g g') : MR g' m ρ w (rows.set r x) := by
  obtain ⟨h1, h2, h3, h4⟩ := h
  refine ⟨(hF.i (by unfold pR; omega)).trans h1, by rw [List.length_set]; exact (hF.i (by unfold pR; omega)).trans h2, by rw [List.length_set]; exact h3, fun k hk => ?_⟩
  rw [List.length_set] at hk
  rw [set_get _ _ _ _ hr]
  by_cases hkr : k = r
  · subst hkr; rw [if_pos rfl]; exact hx
  · rw [if_neg hkr]
    exact (h4 k hk).ch hF fun b j q => by unfold pR at q ⊢; omega
/-! copiesRow -/
theorem copies_l48 {n : Nat} {Z : Zt} {m Rs Rt : Nat} {x : Nat × Pol} {g0 : Mem} (hZ : MZ Z m) (hs : Rs < 448) (ht : Rt < 448) (hne : Rs ≠ Rt) (hx : RowAt g0 m Rs x) : ∀ (d k fu : Nat) (g : Mem), d = x.2.length - k → k ≤ x.2.length → d < fu → Ch (pR m Rt) g0 g → gI g (m + 14) Rt = nI x.1 → gI g (m + 15) Rt = nI x.2.length → (∀ j, j < k → gJ g (m + 16) (32 * Rt + j) = (x.2.getD j (0, 0)).1 ∧ gJ g (m + 17) (32 * Rt + j) = (x.2.getD j (0, 0)).2) →
    ∃ g', f_X11_copiesRow_l48 n Z m fu (nI Rs) (nI Rt) (nI k) g = some ((), g') ∧ RowAt g' m Rt x ∧ Ch (pR m Rt) g0 g' := by
  obtain ⟨h1, h2, h3, h4, h5⟩ := hx
  intro d
  induction d with
  | zero =>
    intro k fu g hd hk hfu hF a1 a2 a3
    obtain ⟨fu, rfl⟩ : ∃ q, fu = q + 1 := ⟨fu - 1, by omega⟩
    have hke : k = x.2.length := by omega
    subst hke
    have hm : gI g (m + 15) Rs = nI x.2.length := (hF.i (by unfold pR; omega)).trans h3
    refine ⟨g, ?_, ⟨a1, h2, a2, h4, a3⟩, hF⟩
    unfold f_X11_copiesRow_l48
    simp (disch := omega) only [hZ.f21, drf_s, hZ.k21, hZ.l21, grd_t, grd_true, inr_eq, clamp, hm, nle, if_pos]
  | succ d ih =>
    intro k fu g hd hk hfu hF a1 a2 a3
    obtain ⟨fu, rfl⟩ : ∃ q, fu = q + 1 := ⟨fu - 1, by omega⟩
    have hm : gI g (m + 15) Rs = nI x.2.length := (hF.i (by unfold pR; omega)).trans h3
    have hj : gJ g (m + 16) (32 * Rs + k) = (x.2.getD k (0, 0)).1 := (hF.j (by unfold pR; omega)).trans (h5 k (by omega)).1
    have hf : gJ g (m + 17) (32 * Rs + k) = (x.2.getD k (0, 0)).2 := (hF.j (by unfold pR; omega)).trans (h5 k (by omega)).2
    have e1 : ((32 : Int32) * nI Rs) = nI (32 * Rs) := by rw [← mIJ]; rfl
    have e2 : ((32 : Int32) * nI Rt) = nI (32 * Rt) := by rw [← mIJ]; rfl
    unfold f_X11_copiesRow_l48
    simp (disch := omega) only [hZ.f21, hZ.f22, hZ.f23, drf_s, hZ.k21, hZ.l21, hZ.k22, hZ.l22, hZ.k23, hZ.l23, grd_t, grd_true, e1, e2, nI_add, inr_eq, clamp, hm, nle, if_neg, gJ_sJ, hj, hf, nI_1]
    refine ih (k + 1) fu _ (by omega) (by omega) (by omega) ((hF.sJ (by unfold pR; omega)).sJ (by unfold pR; omega)) (by simpa only [gI_sJ] using a1) (by simpa only [gI_sJ] using a2) fun j hj' => ?_
    by_cases hjk : j = k
    · subst hjk
      simp (disch := omega) only [gJ_sJ, if_pos, if_neg, true_and, and_true, and_self, ↓reduceIte]
    · have := a3 j (by omega)
      simp (disch := omega) only [gJ_sJ, if_neg]
      exact this
theorem copies_row0 {n : Nat} {Z : Zt} {m Rs Rt : Nat} {x1 x2 x3 x4 : Int32} {x : Nat × Pol} {g : Mem} (hn : 40 ≤ n) (hZ : MZ Z m) (hs : Rs < 448) (ht : Rt < 448) (hne : Rs ≠ Rt) (e1 : ((32 : Int32) * x1) + x2 = nI Rs) (e2 : ((32 : Int32) * x3) + x4 = nI Rt) (hx : RowAt g m Rs x) :
    ∃ g', f_X11_copiesRow n Z m x1 x2 x3 x4 g = some ((), g') ∧ RowAt g' m Rt x ∧ Ch (pR m Rt) g g' := by
  have h3 := hx.2.2.1
  have hl := hx.2.2.2.1
  have hk := hx.1
  unfold f_X11_copiesRow
  rw [e1, e2]
  simp (disch := omega) only [hZ.k, hZ.f20, hZ.f21, drf_s, hZ.k20, hZ.l20, hZ.k21, hZ.l21, grd_t, grd_true, inr_eq, clamp, gI_sI, hk, h3, if_neg]
  refine copies_l48 (x := x) (g0 := g) hZ hs ht hne hx x.2.length 0 n _ (by omega) (by omega) (by omega) ((Ch.rfl.sI (Or.inl ⟨Or.inl rfl, rfl⟩)).sI (Or.inl ⟨Or.inr rfl, rfl⟩)) ?_ ?_ fun j hj => by omega
  · simp (disch := omega) only [gI_sI, if_neg, true_and, and_true, and_self, ↓reduceIte]
  · simp (disch := omega) only [gI_sI, if_neg, true_and, and_true, and_self, ↓reduceIte]
theorem copies_row {n : Nat} {Z : Zt} {m from_ row to at_ : Nat} {x : Nat × Pol} {g : Mem} (hn : 40 ≤ n) (hZ : MZ Z m) (hs : 32 * from_ + row < 448) (ht : 32 * to + at_ < 448) (hne : 32 * from_ + row ≠ 32 * to + at_) (hx : RowAt g m (32 * from_ + row) x) :
    ∃ g', f_X11_copiesRow n Z m (nI from_) (nI row) (nI to) (nI at_) g = some ((), g') ∧ RowAt g' m (32 * to + at_) x ∧ Ch (pR m (32 * to + at_)) g g' :=
  copies_row0 hn hZ hs ht hne (by rw [← nI_add, ← mIJ]; rfl) (by rw [← nI_add, ← mIJ]; rfl) hx
/-! rowFor -/
theorem rf_l8 {n : Nat} {Z : Zt} {m ρ w K : Nat} {g : Mem} {rows : Rws} (hZ : MZ Z m) (hρ : ρ < 14) (hR : MR g m ρ w rows) (hK : K < 2147483648) : ∀ (d k fu : Nat), d = kspot K rows - k → k ≤ kspot K rows → d < fu →
    f_X11_rowFor_l8 n Z m fu (nI ρ) (nI K) (nI (32 * ρ)) (nI k) g = f_X11_rowFor_l38 n Z m (nI ρ) (nI K) (nI (32 * ρ)) (nI (kspot K rows)) g := by
  obtain ⟨p1, p2, p3, p4⟩ := hR
  have hsl := kspot_le K rows
  intro d
  induction d with
  | zero =>
    intro k fu hd hk hfu
    obtain ⟨fu, rfl⟩ : ∃ q, fu = q + 1 := ⟨fu - 1, by omega⟩
    have hks : k = kspot K rows := by omega
    subst hks
    unfold f_X11_rowFor_l8
    simp (disch := omega) only [hZ.f19, drf_s, hZ.k19, hZ.l19, grd_t, grd_true, inr_eq, clamp, p2]
    by_cases h1 : rows.length ≤ kspot K rows
    · simp (disch := omega) only [nle, if_pos]
    · have h3 := (p4 (kspot K rows) (by omega)).1
      have h5 := (p4 (kspot K rows) (by omega)).2.1
      have h4 := kspot_at (K := K) (xs := rows) (by omega)
      simp (disch := omega) only [nle, if_neg, hZ.f20, drf_s, hZ.k20, hZ.l20, grd_t, grd_true, nI_add, inr_eq, clamp, h3, if_pos]
  | succ d ih =>
    intro k fu hd hk hfu
    obtain ⟨fu, rfl⟩ : ∃ q, fu = q + 1 := ⟨fu - 1, by omega⟩
    unfold f_X11_rowFor_l8
    have h3 := (p4 k (by omega)).1
    have h5 := (p4 k (by omega)).2.1
    have h4 := kspot_lt (K := K) (xs := rows) (k := k) (by omega)
    simp (disch := omega) only [hZ.f19, drf_s, hZ.k19, hZ.l19, grd_t, grd_true, inr_eq, clamp, p2, nle, if_neg, hZ.f20, hZ.k20, hZ.l20, nI_add, h3, nI_1]
    exact ih (k + 1) fu (by omega) (by omega) (by omega)
/-- the shift of rows -/
def Rsh (g : Mem) (m ρ w r : Nat) (rows : Rws) : Prop := gI g (m + 12) ρ = nI w ∧ gI g (m + 13) ρ = nI rows.length ∧ (∀ j, j < r → RowAt g m (32 * ρ + j) (rows.getD j (0, []))) ∧ ∀ j, r < j → j ≤ rows.length → RowAt g m (32 * ρ + j) (rows.getD (j - 1) (0, []))
theorem rf_l91 {n : Nat} {Z : Zt} {m ρ w K sp : Nat} {g0 : Mem} {rows : Rws} (hn : 40 ≤ n) (hZ : MZ Z m) (hρ : ρ < 14) (hl : rows.length < 32) (hK : K < 2147483648) (hsp : sp ≤ rows.length) : ∀ (d r fu : Nat) (g : Mem), d = r - sp → sp ≤ r → r ≤ rows.length → d < fu → Rsh g m ρ w r rows → Ch (pQ m ρ) g0 g → gI g m 25 = gI g0 m 25 →
    ∃ g', f_X11_rowFor_l91 n Z m fu (nI ρ) (nI K) (nI (32 * ρ)) (nI sp) (nI r) g = some (nI sp, g') ∧ MR g' m ρ w (insAt sp (K, []) rows) ∧ Ch (pQ m ρ) g0 g' ∧ gI g' m 25 = gI g0 m 25 := by
  intro d
  induction d with
  | zero =>
    intro r fu g hd h1 h2 hfu hS hF h25
    obtain ⟨fu, rfl⟩ : ∃ q, fu = q + 1 := ⟨fu - 1, by omega⟩
    have hrs : r = sp := by omega
    subst hrs
    obtain ⟨s0, s1, s2, s3⟩ := hS
    unfold f_X11_rowFor_l91
    simp (disch := omega) only [nle, if_pos, hZ.f19, hZ.f20, hZ.f21, hZ.k19, hZ.k20, hZ.k21, hZ.l19, hZ.l20, hZ.l21, drf_s, grd_t, grd_true, nI_add, inr_eq, clamp]
    have hG : Ch (fun b j => (b = m + 13 ∧ j = ρ) ∨ ((b = m + 14 ∨ b = m + 15) ∧ j = 32 * ρ + r)) g (sI (sI (sI g (m + 14) (32 * ρ + r) (nI K)) (m + 15) (32 * ρ + r) 0) (m + 13) ρ (gI (sI (sI g (m + 14) (32 * ρ + r) (nI K)) (m + 15) (32 * ρ + r) 0) (m + 13) ρ + 1)) := ((Ch.rfl.sI (Or.inr ⟨Or.inl rfl, rfl⟩)).sI (Or.inr ⟨Or.inr rfl, rfl⟩)).sI (Or.inl ⟨rfl, rfl⟩)
    refine ⟨_, rfl, ⟨?_, ?_, ?_, ?_⟩, hF.trans (hG.mono fun b j q => by unfold pQ; omega), ?_⟩
    · exact (hG.i (by omega)).trans s0
    · rw [insAt_len]
      simp (disch := omega) only [gI_sI, if_pos, if_neg, true_and, and_true, and_self, ↓reduceIte, s1, nI_1, nI_add]
    · rw [insAt_len]; exact hl
    · intro k hk
      rw [insAt_len] at hk
      rw [insAt_get _ _ _ _ h2]
      by_cases q1 : k < r
      · rw [if_pos q1]
        exact (s2 k q1).ch hG fun b j q => by unfold pR at q; omega
      · rw [if_neg q1]
        by_cases q2 : k = r
        · subst q2
          rw [if_pos rfl]
          refine ⟨?_, hK, ?_, Nat.zero_le _, fun j hj => absurd hj (Nat.not_lt_zero _)⟩
          · simp (disch := omega) only [gI_sI, if_pos, if_neg, true_and, and_true, and_self, ↓reduceIte]
          · simp (disch := omega) only [gI_sI, if_pos, if_neg, true_and, and_true, and_self, ↓reduceIte, List.length_nil]
            rfl
        · rw [if_neg q2]
          exact (s3 k (by omega) (by omega)).ch hG fun b j q => by unfold pR at q; omega
    · exact (hG.i (by omega)).trans h25
  | succ d ih =>
    intro r fu g hd h1 h2 hfu hS hF h25
    obtain ⟨fu, rfl⟩ : ∃ q, fu = q + 1 := ⟨fu - 1, by omega⟩
    obtain ⟨s0, s1, s2, s3⟩ := hS
    obtain ⟨g1, e1, r1, c1⟩ := copies_row (n := n) (from_ := ρ) (row := r - 1) (to := ρ) (at_ := r) hn hZ (by omega) (by omega) (by omega) (s2 (r - 1) (by omega))
    unfold f_X11_rowFor_l91
    have e2 : nI r - (1 : Int32) = nI (r - 1) := subN (a := r) (b := 1) (by omega)
    have e3 : nI r + (-1 : Int32) = nI (r - 1) := m1N (by omega)
    simp (disch := omega) only [nle, if_neg, e2, e3, e1, bnd_s]
    refine ih (r - 1) fu g1 (by omega) (by omega) (by omega) (by omega) ⟨(c1.i (by unfold pR; omega)).trans s0, (c1.i (by unfold pR; omega)).trans s1, fun j hj => (s2 j (by omega)).ch c1 fun b j q => by unfold pR at q ⊢; omega, fun j h3 h4 => ?_⟩ (hF.trans (c1.mono fun b j q => pR_Q (by omega) q)) ((c1.i (by unfold pR; omega)).trans h25)
    by_cases hjr : j = r
    · subst hjr; exact r1
    · exact (s3 j (by omega) h4).ch c1 fun b j q => by unfold pR at q ⊢; omega
/-- rowFor -/
theorem row_for {n : Nat} {Z : Zt} {m ρ w K : Nat} {g : Mem} {rows : Rws} (hn : 40 ≤ n) (hZ : MZ Z m) (hρ : ρ < 14) (hR : MR g m ρ w rows) (hK : K < 2147483648) :
    match rRow rows K with
    | some rows1 => ∃ g', f_X11_rowFor n Z m (nI ρ) (nI K) g = some (nI (kspot K rows), g') ∧ MR g' m ρ w rows1 ∧ Ch (pQ m ρ) g g' ∧ gI g' m 25 = gI g m 25
    | none => f_X11_rowFor n Z m (nI ρ) (nI K) g = some (nI 0, sI g m 25 1) := by
  have hsl := kspot_le K rows
  have p := hR
  obtain ⟨p1, p2, p3, p4⟩ := p
  have e0 : f_X11_rowFor n Z m (nI ρ) (nI K) g = f_X11_rowFor_l38 n Z m (nI ρ) (nI K) (nI (32 * ρ)) (nI (kspot K rows)) g := by
    unfold f_X11_rowFor
    rw [grd_t hZ.k, show ((32 : Int32) * nI ρ) = nI (32 * ρ) by rw [← mIJ]; rfl]
    exact rf_l8 hZ hρ hR hK (kspot K rows) 0 n (by omega) (by omega) (by omega)
  rw [e0]
  unfold rRow
  by_cases hc : kspot K rows < rows.length ∧ (rows.getD (kspot K rows) (0, [])).1 = K
  · rw [if_pos hc]
    refine ⟨g, ?_, hR, Ch.rfl, rfl⟩
    have h3 := (p4 _ hc.1).1
    rw [hc.2] at h3
    unfold f_X11_rowFor_l38
    simp (disch := omega) only [hZ.f19, drf_s, hZ.k19, hZ.l19, grd_t, grd_true, inr_eq, clamp, p2, nle, if_neg, hZ.f20, hZ.k20, hZ.l20, nI_add, h3]
    simp only [if_true]
  · have h65 : f_X11_rowFor_l38 n Z m (nI ρ) (nI K) (nI (32 * ρ)) (nI (kspot K rows)) g = f_X11_rowFor_l65 n Z m (nI ρ) (nI K) (nI (32 * ρ)) (nI (kspot K rows)) g := by
      unfold f_X11_rowFor_l38
      simp (disch := omega) only [hZ.f19, drf_s, hZ.k19, hZ.l19, grd_t, grd_true, inr_eq, clamp, p2]
      by_cases h1 : rows.length ≤ kspot K rows
      · simp (disch := omega) only [nle, if_pos]
      · have h3 := (p4 (kspot K rows) (by omega)).1
        have h5 := (p4 (kspot K rows) (by omega)).2.1
        have h4 : ¬ nI (rows.getD (kspot K rows) (0, [])).1 = nI K := fun q => hc ⟨by omega, (neq h5 hK).mp q⟩
        simp (disch := omega) only [nle, if_neg, hZ.f20, drf_s, hZ.k20, hZ.l20, grd_t, grd_true, nI_add, inr_eq, clamp, h3, if_neg h4]
    rw [if_neg hc, h65]
    unfold f_X11_rowFor_l65
    simp (disch := omega) only [hZ.f19, drf_s, hZ.k19, hZ.l19, grd_t, grd_true, inr_eq, clamp, p2]
    by_cases hl : rows.length < 32
    · rw [if_pos hl, if_neg (fun q => by have := (neqL (by omega) (by omega)).mp q; omega)]
      exact rf_l91 (w := w) (g0 := g) hn hZ hρ hl hK hsl (rows.length - kspot K rows) rows.length n g rfl hsl (Nat.le_refl _) (by omega) ⟨p1, p2, p4, fun j h1 h2 => by omega⟩ Ch.rfl rfl
    · rw [if_neg hl, if_pos ((neqL (by omega) (by omega)).mpr (by omega))]
      rfl

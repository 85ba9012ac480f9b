/-! ROWS OF A RELATION: keys ascending, each with a polynomial -/
abbrev Pol : Type := List (Int64 × Int64)
abbrev Rws : Type := List (Nat × Pol)
def kspot (K : Nat) : Rws → Nat
  | [] => 0
  | x :: xs => if x.1 < K then kspot K xs + 1 else 0
theorem kspot_le (K : Nat) (xs : Rws) : kspot K xs ≤ xs.length := by
  induction xs with
  | nil => exact Nat.le_refl _
  | cons x xs ih =>
    unfold kspot
    split
    · simp only [List.length_cons]; omega
    · exact Nat.zero_le _
theorem kspot_lt {K : Nat} {xs : Rws} {k : Nat} (h : k < kspot K xs) : (xs.getD k (0, [])).1 < K := by
  induction xs generalizing k with
  | nil => simp [kspot] at h
  | cons x xs ih =>
    unfold kspot at h
    split at h
    · rename_i hc
      cases k with
      | zero => exact hc
      | succ k => exact ih (by omega)
    · omega
theorem kspot_at {K : Nat} {xs : Rws} (h : kspot K xs < xs.length) : K ≤ (xs.getD (kspot K xs) (0, [])).1 := by
  induction xs with
  | nil => simp [kspot] at h
  | cons x xs ih =>
    unfold kspot at h ⊢
    split
    · rename_i hc
      rw [if_pos hc] at h
      simp only [List.length_cons] at h
      exact ih (by omega)
    · rename_i hc
      show K ≤ x.1
      omega
/-- the row of a key is there -/
def khas (K : Nat) (xs : Rws) : Prop := kspot K xs < xs.length ∧ (xs.getD (kspot K xs) (0, [])).1 = K
/-- a Relation of the class -/
def RIs (g : Mem) (r w : Nat) (π : Nat → Nat) (rows : Rws) : Prop :=
  gI g r 2 = nI w ∧ gI g r 3 = nI rows.length ∧ rows.length ≤ 32 ∧ (∀ k, k < rows.length → gI g (r + 1) k = nI (rows.getD k (0, [])).1 ∧ (rows.getD k (0, [])).1 < 2147483648) ∧ (∀ j, j < 32 → gP g (r + 2) j = some (r + 3 + 3 * π j) ∧ π j < 32) ∧ (∀ i j, i < 32 → j < 32 → π i = π j → i = j) ∧ ∀ k, k < rows.length → PIs g (r + 3 + 3 * π k) (rows.getD k (0, [])).2
theorem RIs.fr {g g' : Mem} {r w lo hi : Nat} {π : Nat → Nat} {rows : Rws} (h : RIs g r w π rows) (hF : Fr lo hi g g') (h1 : r + 99 ≤ lo ∨ hi ≤ r) : RIs g' r w π rows := by
  obtain ⟨a1, a2, a3, a4, a5, a6, a7⟩ := h
  refine ⟨(hF.i (by omega) _).trans a1, (hF.i (by omega) _).trans a2, a3, fun k hk => ⟨(hF.i (by omega) _).trans (a4 k hk).1, (a4 k hk).2⟩, fun j hj => ⟨(hF.p (by omega) _).trans (a5 j hj).1, (a5 j hj).2⟩, a6, fun k hk => ?_⟩
  have hb := (a5 k (by omega)).2
  exact (a7 k hk).fr hF (by omega)
theorem row_l2 {n : Nat} {Z : Zt} {r w K : Nat} {π : Nat → Nat} {g : Mem} {rows : Rws} (hZ : RZ Z r) (hR : RIs g r w π rows) (hK : K < 2147483648) : ∀ (d k fu : Nat), d = kspot K rows - k → k ≤ kspot K rows → d < fu →
    f_X7_rowWith_l2 n Z r fu (nI K) (nI k) g = f_X7_rowWith_l32 n Z r (nI K) (nI (kspot K rows)) g := by
  obtain ⟨a1, a2, a3, a4, a5, a6, a7⟩ := hR
  have hsl := kspot_le K rows
  have z := hZ.1
  intro d
  induction d with
  | zero =>
    intro k fu hd hk hfu
    obtain ⟨fu, rfl⟩ : ∃ q, fu = q + 1 := ⟨fu - 1, by omega⟩
    have hks : k = kspot K rows := by omega
    subst hks
    unfold f_X7_rowWith_l2
    by_cases h1 : rows.length ≤ kspot K rows
    · simp (disch := omega) only [a2, nle, if_pos]
    · have h3 := a4 (kspot K rows) (by omega)
      have h4 := kspot_at (K := K) (xs := rows) (by omega)
      simp (disch := omega) only [a2, nle, Lnle, if_neg, z.f0, z.k0, z.l0, drf_s, grd_t, grd_true, inr_eq, clamp, h3.1, if_pos]
  | succ d ih =>
    intro k fu hd hk hfu
    obtain ⟨fu, rfl⟩ : ∃ q, fu = q + 1 := ⟨fu - 1, by omega⟩
    unfold f_X7_rowWith_l2
    have h3 := a4 k (by omega)
    have h4 := kspot_lt (K := K) (xs := rows) (k := k) (by omega)
    simp (disch := omega) only [a2, nle, Lnle, if_neg, z.f0, z.k0, z.l0, drf_s, grd_t, grd_true, inr_eq, clamp, h3.1, nI_1]
    exact ih (k + 1) fu (by omega) (by omega) (by omega)
/-- the shift of keys and references -/
def Rhf (g0 g : Mem) (r i s : Nat) : Prop := Fr r (r + 3) g0 g ∧ (∀ j, gI g r j = gI g0 r j) ∧ (∀ j, gI g (r + 1) j = if i < j ∧ j ≤ s then gI g0 (r + 1) (j - 1) else gI g0 (r + 1) j) ∧ ∀ j, gP g (r + 2) j = if i < j ∧ j ≤ s then gP g0 (r + 2) (j - 1) else gP g0 (r + 2) j
theorem row_l96 {n : Nat} {Z : Zt} {r sp s K : Nat} {π : Nat → Nat} {g0 : Mem} (hZ : RZ Z r) (hs : s < 32) (hsz : gI g0 r 3 = nI s) (hsp : sp ≤ s) (hπ : ∀ j, j < 32 → gP g0 (r + 2) j = some (r + 3 + 3 * π j) ∧ π j < 32) : ∀ (d i fu : Nat) (g : Mem), d = i - sp → sp ≤ i → i ≤ s → d < fu → Rhf g0 g r i s →
    ∃ g', f_X7_rowWith_l96 n Z r fu (nI K) (nI sp) (some (r + 3 + 3 * π s)) (nI i) g = some (some (r + 3 + 3 * π s), g') ∧ Fr r (r + 99) g0 g' ∧ (∀ b, b ≠ r → b ≠ r + 1 → b ≠ r + 2 → b ≠ r + 3 + 3 * π s → ∀ j, gI g' b j = gI g0 b j ∧ gJ g' b j = gJ g0 b j ∧ gP g' b j = gP g0 b j) ∧ gI g' r 2 = gI g0 r 2 ∧ gI g' r 3 = nI (s + 1) ∧ (∀ j, gI g' (r + 1) j = if j = sp then nI K else if sp < j ∧ j ≤ s then gI g0 (r + 1) (j - 1) else gI g0 (r + 1) j) ∧ (∀ j, gP g' (r + 2) j = if j = sp then some (r + 3 + 3 * π s) else if sp < j ∧ j ≤ s then gP g0 (r + 2) (j - 1) else gP g0 (r + 2) j) ∧ PIs g' (r + 3 + 3 * π s) [] := by
  have z := hZ.1
  intro d
  induction d with
  | zero =>
    intro i fu g hd h1 h2 hfu hS
    obtain ⟨fu, rfl⟩ : ∃ q, fu = q + 1 := ⟨fu - 1, by omega⟩
    have hi : i = sp := by omega
    subst hi
    obtain ⟨s1, s2, s3, s4⟩ := hS
    have hq := (hπ s hs).2
    have zp := (hZ.2 (π s) hq).1
    unfold f_X7_rowWith_l96 f_X5_clear
    simp (disch := omega) only [nle, if_pos, drf_s, grd_t, grd_true, bnd_s, z.f0, z.f1, z.k0, z.k1, z.l0, z.l1, zp, inr_eq, clamp]
    refine ⟨_, rfl, ?_, ?_, ?_, ?_, ?_, ?_, ?_⟩
    · exact ((((s1.mono (Nat.le_refl _) (by omega)).sI (by omega) (by omega)).sI (by omega) (by omega)).sP (by omega) (by omega)).sI (by omega) (by omega)
    · intro b b1 b2 b3 b4 j
      have := s1 b (by omega) j
      simpa [gI_sI, gJ_sI, gP_sI, gI_sP, gJ_sP, gP_sP, b1, b2, b3, b4] using this
    · simp (disch := omega) only [gI_sI, gI_sP, if_neg, s2]
    · simp (disch := omega) only [gI_sI, gI_sP, if_neg, if_pos, s2, hsz, true_and, and_true, and_self, ↓reduceIte]
      exact nI_1 s
    · intro j
      by_cases hj : j = i
      · simp (disch := omega) only [gI_sI, gI_sP, if_pos, if_neg, true_and, and_true, and_self, ↓reduceIte]
      · simp (disch := omega) only [gI_sI, gI_sP, s3, if_pos, if_neg, true_and, and_true, and_self, ↓reduceIte]
    · intro j
      by_cases hj : j = i
      · simp (disch := omega) only [gP_sI, gP_sP, if_pos, if_neg, true_and, and_true, and_self, ↓reduceIte]
      · simp (disch := omega) only [gP_sI, gP_sP, s4, if_pos, if_neg, true_and, and_true, and_self, ↓reduceIte]
    · refine ⟨?_, Nat.zero_le _, fun k hk => absurd hk (Nat.not_lt_zero _)⟩
      simp (disch := omega) only [gI_sI, gI_sP, if_neg, if_pos, true_and, and_true, and_self, ↓reduceIte]
      rfl
  | succ d ih =>
    intro i fu g hd h1 h2 hfu hS
    obtain ⟨fu, rfl⟩ : ∃ q, fu = q + 1 := ⟨fu - 1, by omega⟩
    obtain ⟨s1, s2, s3, s4⟩ := hS
    have e1 : nI i - (1 : Int32) = nI (i - 1) := subN (a := i) (b := 1) (by omega)
    have e2 : nI i + (-1 : Int32) = nI (i - 1) := m1N (by omega)
    have hq := hπ (i - 1) (by omega)
    have hp4 : gP g (r + 2) (i - 1) = some (r + 3 + 3 * π (i - 1)) := by rw [s4, if_neg (by omega)]; exact hq.1
    have zp := (hZ.2 (π (i - 1)) hq.2).1
    unfold f_X7_rowWith_l96
    simp (disch := omega) only [nle, if_neg, drf_s, grd_t, grd_true, nam_s, z.f0, z.f1, z.k0, z.k1, z.l0, z.l1, inr_eq, clamp, e1, e2, gP_sI, hp4, zp]
    refine ih (i - 1) fu _ (by omega) (by omega) (by omega) (by omega) ⟨(s1.sI (by omega) (by omega)).sP (by omega) (by omega), fun j => ?_, fun j => ?_, fun j => ?_⟩
    · simp (disch := omega) only [gI_sI, gI_sP, if_neg, s2]
    · by_cases hj : j = i
      · subst hj
        simp (disch := omega) only [gI_sI, gI_sP, s3, if_pos, if_neg, true_and, and_true, and_self, ↓reduceIte]
      · by_cases h6 : i < j ∧ j ≤ s
        · simp (disch := omega) only [gI_sI, gI_sP, s3, if_pos, if_neg, true_and, and_true, and_self, ↓reduceIte]
        · simp (disch := omega) only [gI_sI, gI_sP, s3, if_pos, if_neg, true_and, and_true, and_self, ↓reduceIte]
    · by_cases hj : j = i
      · subst hj
        simp (disch := omega) only [gP_sI, gP_sP, if_pos, if_neg, true_and, and_true, and_self, ↓reduceIte]
        exact hq.1.symm
      · by_cases h6 : i < j ∧ j ≤ s
        · simp (disch := omega) only [gP_sI, gP_sP, s4, if_pos, if_neg, true_and, and_true, and_self, ↓reduceIte]
        · simp (disch := omega) only [gP_sI, gP_sP, s4, if_pos, if_neg, true_and, and_true, and_self, ↓reduceIte]
/-- Relation.rowWith, of a key that is there -/
theorem row_old {n : Nat} {Z : Zt} {r w K : Nat} {π : Nat → Nat} {g : Mem} {rows : Rws} (hn : 40 ≤ n) (hZ : RZ Z r) (hR : RIs g r w π rows) (hK : K < 2147483648) (hk : khas K rows) : f_X7_rowWith n Z r (nI K) g = some (some (r + 3 + 3 * π (kspot K rows)), g) := by
  have h2 := row_l2 (n := n) hZ hR hK (kspot K rows) 0 n (by omega) (by omega) (by have := hR.2.2.1; have := hk.1; omega)
  obtain ⟨a1, a2, a3, a4, a5, a6, a7⟩ := hR
  have z := hZ.1
  unfold f_X7_rowWith
  rw [grd_t z.k, show (0 : Int32) = nI 0 from rfl, h2]
  unfold f_X7_rowWith_l32
  have h3 := a4 (kspot K rows) hk.1
  have h1 := hk.1
  have h5 := a5 (kspot K rows) (by omega)
  simp (disch := omega) only [a2, nle, Lnle, if_neg, drf_s, grd_t, grd_true, nam_s, z.f0, z.f1, z.k0, z.k1, z.l0, z.l1, inr_eq, clamp, h3.1, hk.2, h5.1, ↓reduceIte]
theorem row_63 {n : Nat} {Z : Zt} {r w K : Nat} {π : Nat → Nat} {g : Mem} {rows : Rws} (hn : 40 ≤ n) (hZ : RZ Z r) (hR : RIs g r w π rows) (hK : K < 2147483648) (hk : ¬ khas K rows) : f_X7_rowWith n Z r (nI K) g = f_X7_rowWith_l63 n Z r (nI K) (nI (kspot K rows)) g := by
  have hsl := kspot_le K rows
  have h2 := row_l2 (n := n) hZ hR hK (kspot K rows) 0 n (by omega) (by omega) (by have := hR.2.2.1; omega)
  obtain ⟨a1, a2, a3, a4, a5, a6, a7⟩ := hR
  have z := hZ.1
  unfold f_X7_rowWith
  rw [grd_t z.k, show (0 : Int32) = nI 0 from rfl, h2]
  unfold f_X7_rowWith_l32
  by_cases h1 : rows.length ≤ kspot K rows
  · simp (disch := omega) only [a2, nle, if_pos]
  · have h3 := a4 (kspot K rows) (by omega)
    have h4 : ¬ (rows.getD (kspot K rows) (0, [])).1 = K := fun q => hk ⟨by omega, q⟩
    have h6 := h3.2
    simp (disch := omega) only [a2, nle, Lnle, if_neg, drf_s, grd_t, grd_true, z.f0, z.k0, z.l0, inr_eq, clamp, h3.1, neq]
theorem row_full {n : Nat} {Z : Zt} {r w K : Nat} {π : Nat → Nat} {g : Mem} {rows : Rws} (hn : 40 ≤ n) (hZ : RZ Z r) (hR : RIs g r w π rows) (hK : K < 2147483648) (hk : ¬ khas K rows) (hl : ¬ rows.length < 32) : f_X7_rowWith n Z r (nI K) g = some (none, g) := by
  rw [row_63 hn hZ hR hK hk]
  unfold f_X7_rowWith_l63
  have := hR.2.2.1
  simp (disch := omega) only [hR.2.1, nltL, if_neg]
/-- .. of a new key -/
theorem row_new {n : Nat} {Z : Zt} {r w K : Nat} {π : Nat → Nat} {g : Mem} {rows : Rws} (hn : 40 ≤ n) (hZ : RZ Z r) (hR : RIs g r w π rows) (hK : K < 2147483648) (hk : ¬ khas K rows) (hl : rows.length < 32) :
    ∃ g' π', f_X7_rowWith n Z r (nI K) g = some (some (r + 3 + 3 * π' (kspot K rows)), g') ∧ RIs g' r w π' (insAt (kspot K rows) (K, []) rows) ∧ Fr r (r + 99) g g' := by
  have hsl := kspot_le K rows
  rw [row_63 hn hZ hR hK hk]
  obtain ⟨a1, a2, a3, a4, a5, a6, a7⟩ := id hR
  have z := hZ.1
  obtain ⟨g', e1, f1, f2, f3, f4, f5, f6, f7⟩ := row_l96 (n := n) (K := K) (g0 := g) hZ (s := rows.length) (sp := kspot K rows) (π := π) hl a2 hsl a5 (rows.length - kspot K rows) rows.length n g rfl hsl (Nat.le_refl _) (by omega) ⟨Fr.rfl, fun _ => rfl, fun j => by rw [if_neg (by omega)], fun j => by rw [if_neg (by omega)]⟩
  obtain ⟨σ, hσ⟩ : ∃ σ : Nat → Nat, ∀ j, σ j = if j < kspot K rows then j else if j = kspot K rows then rows.length else if j ≤ rows.length then j - 1 else j := ⟨_, fun _ => rfl⟩
  have hσc : ∀ j, (j < kspot K rows ∧ σ j = j) ∨ (j = kspot K rows ∧ σ j = rows.length) ∨ (kspot K rows < j ∧ j ≤ rows.length ∧ σ j = j - 1) ∨ (rows.length < j ∧ σ j = j) := by
    intro j
    rw [hσ]
    by_cases q1 : j < kspot K rows
    · rw [if_pos q1]; exact Or.inl ⟨q1, rfl⟩
    · by_cases q2 : j = kspot K rows
      · rw [if_neg q1, if_pos q2]; exact Or.inr (Or.inl ⟨q2, rfl⟩)
      · by_cases q3 : j ≤ rows.length
        · rw [if_neg q1, if_neg q2, if_pos q3]; exact Or.inr (Or.inr (Or.inl ⟨by omega, q3, rfl⟩))
        · rw [if_neg q1, if_neg q2, if_neg q3]; exact Or.inr (Or.inr (Or.inr ⟨by omega, rfl⟩))
  have hσl : ∀ j, j < 32 → σ j < 32 := by
    intro j hj
    rcases hσc j with h | h | h | h <;> omega
  have hσi : ∀ i j, σ i = σ j → i = j := by
    intro i j h
    rcases hσc i with h1 | h1 | h1 | h1 <;> rcases hσc j with h2 | h2 | h2 | h2 <;> omega
  have hs : σ (kspot K rows) = rows.length := by rw [hσ, if_neg (Nat.lt_irrefl _), if_pos rfl]
  refine ⟨g', fun j => π (σ j), ?_, ⟨f3.trans a1, ?_, ?_, ?_, ?_, ?_, ?_⟩, f1⟩
  · unfold f_X7_rowWith_l63
    have h5 := (a5 rows.length hl).1
    simp (disch := omega) only [a2, nltL, if_pos, drf_s, grd_t, grd_true, nam_s, z.f1, z.k1, z.l1, inr_eq, clamp, h5, hs]
    exact e1
  · rw [insAt_len]; exact f4
  · rw [insAt_len]; exact hl
  · intro k hk
    rw [insAt_len] at hk
    rw [f5, insAt_get _ _ _ _ hsl]
    by_cases h1 : k < kspot K rows
    · simp (disch := omega) only [if_pos, if_neg]
      exact a4 k (by omega)
    · by_cases h2 : k = kspot K rows
      · simp only [h2, Nat.lt_irrefl, if_true, if_false]
        exact ⟨trivial, hK⟩
      · simp (disch := omega) only [if_pos, if_neg]
        exact a4 (k - 1) (by omega)
  · intro j hj
    refine ⟨?_, (a5 _ (hσl j hj)).2⟩
    rw [f6]
    show _ = some (r + 3 + 3 * π (σ j))
    by_cases q1 : j < kspot K rows
    · rw [if_neg (by omega), if_neg (by omega), (a5 j hj).1, hσ, if_pos q1]
    · by_cases q2 : j = kspot K rows
      · rw [if_pos q2, q2, hs]
      · by_cases q3 : j ≤ rows.length
        · rw [if_neg q2, if_pos (by omega), (a5 (j - 1) (by omega)).1, hσ, if_neg q1, if_neg q2, if_pos q3]
        · rw [if_neg q2, if_neg (by omega), (a5 j hj).1, hσ, if_neg q1, if_neg q2, if_neg q3]
  · intro i j hi hj h
    exact hσi i j (a6 _ _ (hσl i hi) (hσl j hj) h)
  · intro k hk
    rw [insAt_len] at hk
    rw [insAt_get _ _ _ _ hsl]
    show PIs g' (r + 3 + 3 * π (σ k)) _
    have hkeep : ∀ j, j < rows.length → PIs g' (r + 3 + 3 * π j) (rows.getD j (0, [])).2 := by
      intro j hj
      have hne : π j ≠ π rows.length := fun q => by have := a6 j rows.length (by omega) hl q; omega
      obtain ⟨c1, c2, c3⟩ := a7 j hj
      have hb := (a5 j (by omega)).2
      have hb2 := (a5 rows.length hl).2
      refine ⟨((f2 _ (by omega) (by omega) (by omega) (by omega) _).1).trans c1, c2, fun i hi => ⟨?_, ?_⟩⟩
      · exact ((f2 _ (by omega) (by omega) (by omega) (by omega) _).2.1).trans (c3 i hi).1
      · exact ((f2 _ (by omega) (by omega) (by omega) (by omega) _).2.1).trans (c3 i hi).2
    by_cases h1 : k < kspot K rows
    · rw [if_pos h1, hσ, if_pos h1]; exact hkeep k (by omega)
    · by_cases h2 : k = kspot K rows
      · rw [if_neg h1, if_pos h2, h2, hs]; exact f7
      · rw [if_neg h1, if_neg h2, hσ, if_neg h1, if_neg h2, if_pos (by omega)]; exact hkeep (k - 1) (by omega)
/-- one row's polynomial changes -/
theorem RIs.set {g g' : Mem} {r w k : Nat} {π : Nat → Nat} {rows : Rws} {ys : Pol} (h : RIs g r w π rows) (hk : k < rows.length) (hP : PIs g' (r + 3 + 3 * π k) ys) (hF : Fr (r + 3 + 3 * π k) (r + 3 + 3 * π k + 3) g g') : RIs g' r w π (rows.set k ((rows.getD k (0, [])).1, ys)) := by
  obtain ⟨a1, a2, a3, a4, a5, a6, a7⟩ := h
  have hl : (rows.set k ((rows.getD k (0, [])).1, ys)).length = rows.length := List.length_set ..
  refine ⟨(hF.i (by omega) _).trans a1, by rw [hl]; exact (hF.i (by omega) _).trans a2, by rw [hl]; exact a3, fun j hj => ?_, fun j hj => ⟨(hF.p (by omega) _).trans (a5 j hj).1, (a5 j hj).2⟩, a6, fun j hj => ?_⟩
  · rw [hl] at hj
    rw [set_get _ _ _ _ hk]
    have := a4 j hj
    by_cases q : j = k
    · subst q; rw [if_pos rfl]; exact ⟨(hF.i (by omega) _).trans this.1, this.2⟩
    · rw [if_neg q]; exact ⟨(hF.i (by omega) _).trans this.1, this.2⟩
  · rw [hl] at hj
    rw [set_get _ _ _ _ hk]
    by_cases q : j = k
    · subst q; rw [if_pos rfl]; exact hP
    · rw [if_neg q]
      have hne : π j ≠ π k := fun z => q (a6 j k (by omega) (by omega) z)
      exact (a7 j hj).fr hF (by omega)

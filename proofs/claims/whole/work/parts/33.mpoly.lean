/-! THE REFERENCE's POLYNOMIALS: rows of two long arrays -/
/-- the terms of the row R of the pile -/
def MIs (g : Mem) (m R : Nat) (xs : List (Int64 × Int64)) : Prop := gI g (m + 15) R = nI xs.length ∧ xs.length ≤ 32 ∧ PArr g (m + 16) (m + 17) (32 * R) xs
/-- what adding to the row R may change -/
def pT (m R b j : Nat) : Prop := (b = m + 15 ∧ j = R) ∨ ((b = m + 16 ∨ b = m + 17) ∧ 32 * R ≤ j ∧ j < 32 * R + 32)
abbrev Fm (m R : Nat) (g g' : Mem) : Prop := Ch (pT m R) g g'
theorem Fm.rfl {m R : Nat} {g : Mem} : Fm m R g g := Ch.rfl
theorem mIJ (a b : Nat) : nI a * nI b = nI (a * b) := pk_mul a b
theorem madd_l18 {n : Nat} {Z : Zt} {m R : Nat} {mo f : Int64} {g : Mem} {xs : List (Int64 × Int64)} (hZ : MZ Z m) (hR : R < 448) (hP : MIs g m R xs) : ∀ (d k fu : Nat), d = spot mo xs - k → k ≤ spot mo xs → d < fu →
    f_X11_addsTerm_l18 n Z m fu mo f (nI R) (nI (32 * R)) (nI k) g = f_X11_addsTerm_l59 n Z m mo f (nI R) (nI (32 * R)) (nI (spot mo xs)) g := by
  obtain ⟨p1, p2, p3⟩ := hP
  have hsl := spot_le mo xs
  intro d
  induction d with
  | zero =>
    intro k fu hd hk hfu
    obtain ⟨fu, rfl⟩ : ∃ q, fu = q + 1 := ⟨fu - 1, by omega⟩
    have hks : k = spot mo xs := by omega
    subst hks
    unfold f_X11_addsTerm_l18
    simp (disch := omega) only [hZ.f21, drf_s, hZ.k21, hZ.l21, grd_t, grd_true, inr_eq, clamp, p1]
    by_cases h1 : xs.length ≤ spot mo xs
    · simp (disch := omega) only [nle, if_pos]
    · have h3 := (p3 (spot mo xs) (by omega)).1
      have h4 := spot_at (m := mo) (xs := xs) (by omega)
      simp (disch := omega) only [nle, if_neg, hZ.f22, drf_s, hZ.k22, hZ.l22, grd_t, grd_true, nI_add, inr_eq, clamp, h3, if_pos h4]
  | succ d ih =>
    intro k fu hd hk hfu
    obtain ⟨fu, rfl⟩ : ∃ q, fu = q + 1 := ⟨fu - 1, by omega⟩
    unfold f_X11_addsTerm_l18
    have h3 := (p3 k (by omega)).1
    have h4 := spot_lt (m := mo) (xs := xs) (k := k) (by omega)
    simp (disch := omega) only [hZ.f21, drf_s, hZ.k21, hZ.l21, grd_t, grd_true, inr_eq, clamp, p1, nle, if_neg, hZ.f22, hZ.k22, hZ.l22, nI_add, h3, if_neg h4, nI_1]
    exact ih (k + 1) fu (by omega) (by omega) (by omega)
def Mhf (g0 g : Mem) (m R i s : Nat) : Prop := Fm m R g0 g ∧ gI g (m + 15) R = gI g0 (m + 15) R ∧ (∀ j, gJ g (m + 16) (32 * R + j) = if i < j ∧ j ≤ s then gJ g0 (m + 16) (32 * R + (j - 1)) else gJ g0 (m + 16) (32 * R + j)) ∧ ∀ j, gJ g (m + 17) (32 * R + j) = if i < j ∧ j ≤ s then gJ g0 (m + 17) (32 * R + (j - 1)) else gJ g0 (m + 17) (32 * R + j)
theorem Fm.sJ {m R : Nat} {g g' : Mem} {b k : Nat} {v : Int64} (h : Fm m R g g') (hb : b = m + 16 ∨ b = m + 17) (h1 : 32 * R ≤ k) (h2 : k < 32 * R + 32) : Fm m R g (sJ g' b k v) := Ch.sJ h (Or.inr ⟨hb, h1, h2⟩)
theorem Fm.sI {m R : Nat} {g g' : Mem} {v : Int32} (h : Fm m R g g') : Fm m R g (sI g' (m + 15) R v) := Ch.sI h (Or.inl ⟨Eq.refl _, Eq.refl _⟩)
theorem madd_l129 {n : Nat} {Z : Zt} {m R sp s : Nat} {mo f : Int64} {g0 : Mem} (hZ : MZ Z m) (hR : R < 448) (hs : s < 32) (hsz : gI g0 (m + 15) R = nI s) (hsp : sp ≤ s) : ∀ (d i fu : Nat) (g : Mem), d = i - sp → sp ≤ i → i ≤ s → d < fu → Mhf g0 g m R i s →
    ∃ g', f_X11_addsTerm_l129 n Z m fu mo f (nI R) (nI (32 * R)) (nI sp) (nI i) g = some ((), g') ∧ Fm m R g0 g' ∧ gI g' (m + 15) R = nI (s + 1) ∧ (∀ j, gJ g' (m + 16) (32 * R + j) = if j = sp then mo else if sp < j ∧ j ≤ s then gJ g0 (m + 16) (32 * R + (j - 1)) else gJ g0 (m + 16) (32 * R + j)) ∧ ∀ j, gJ g' (m + 17) (32 * R + j) = if j = sp then f else if sp < j ∧ j ≤ s then gJ g0 (m + 17) (32 * R + (j - 1)) else gJ g0 (m + 17) (32 * R + j) := by
  intro d
  induction d with
  | zero =>
    intro i fu g hd h1 h2 hfu hS
    obtain ⟨fu, rfl⟩ : ∃ q, fu = q + 1 := ⟨fu - 1, by omega⟩
    have hi : i = sp := by omega
    subst hi
    obtain ⟨s1, s2, s3, s4⟩ := hS
    unfold f_X11_addsTerm_l129
    simp (disch := omega) only [nle, if_pos, hZ.f21, hZ.f22, hZ.f23, hZ.k21, hZ.k22, hZ.k23, hZ.l21, hZ.l22, hZ.l23, drf_s, grd_t, grd_true, nI_add, inr_eq, clamp]
    refine ⟨_, rfl, ((s1.sJ (Or.inl rfl) (by omega) (by omega)).sJ (Or.inr rfl) (by omega) (by omega)).sI, ?_, ?_, ?_⟩
    · simp [gI_sI, gI_sJ, s2, hsz, nI_1]
    · intro j
      by_cases hj : j = i
      · simp (disch := omega) only [gJ_sI, gJ_sJ, if_pos, if_neg, true_and, and_true, and_self, ↓reduceIte]
      · simp (disch := omega) only [gJ_sI, gJ_sJ, s3, if_pos, if_neg, true_and, and_true, and_self, ↓reduceIte]
    · intro j
      by_cases hj : j = i
      · simp (disch := omega) only [gJ_sI, gJ_sJ, if_pos, if_neg, true_and, and_true, and_self, ↓reduceIte]
      · simp (disch := omega) only [gJ_sI, gJ_sJ, s4, if_pos, if_neg, true_and, and_true, and_self, ↓reduceIte]
  | succ d ih =>
    intro i fu g hd h1 h2 hfu hS
    obtain ⟨fu, rfl⟩ : ∃ q, fu = q + 1 := ⟨fu - 1, by omega⟩
    obtain ⟨s1, s2, s3, s4⟩ := hS
    unfold f_X11_addsTerm_l129
    have e1 : nI (32 * R + i) - (1 : Int32) = nI (32 * R + (i - 1)) := (subN (a := 32 * R + i) (b := 1) (by omega)).trans (by congr 1; omega)
    have e2 : nI i + (-1 : Int32) = nI (i - 1) := m1N (by omega)
    simp (disch := omega) only [nle, if_neg, hZ.f21, hZ.f22, hZ.f23, hZ.k21, hZ.k22, hZ.k23, hZ.l21, hZ.l22, hZ.l23, drf_s, grd_t, grd_true, nI_add, inr_eq, clamp, e1, e2]
    refine ih (i - 1) fu _ (by omega) (by omega) (by omega) (by omega) ⟨(s1.sJ (Or.inl rfl) (by omega) (by omega)).sJ (Or.inr rfl) (by omega) (by omega), by simp [gI_sJ, s2], fun j => ?_, fun j => ?_⟩
    · by_cases hj : j = i
      · subst hj
        simp (disch := omega) only [gJ_sJ, s3, if_pos, if_neg, true_and, and_true, and_self, ↓reduceIte]
      · by_cases h6 : i < j ∧ j ≤ s
        · simp (disch := omega) only [gJ_sJ, s3, if_pos, if_neg, true_and, and_true, and_self, ↓reduceIte]
        · simp (disch := omega) only [gJ_sJ, s3, if_pos, if_neg, true_and, and_true, and_self, ↓reduceIte]
    · by_cases hj : j = i
      · subst hj
        simp (disch := omega) only [gJ_sJ, s4, if_pos, if_neg, true_and, and_true, and_self, ↓reduceIte]
      · by_cases h6 : i < j ∧ j ≤ s
        · simp (disch := omega) only [gJ_sJ, s4, if_pos, if_neg, true_and, and_true, and_self, ↓reduceIte]
        · simp (disch := omega) only [gJ_sJ, s4, if_pos, if_neg, true_and, and_true, and_self, ↓reduceIte]
/-- addsTerm -/
theorem madd_term {n : Nat} {Z : Zt} {m ρ r : Nat} {mo f : Int64} {g : Mem} {xs : List (Int64 × Int64)} (hn : 40 ≤ n) (hZ : MZ Z m) (hρ : ρ < 14) (hr : r < 32) (hP : MIs g m (32 * ρ + r) xs) :
    match pAdd xs mo f with
    | some ys => ∃ g', f_X11_addsTerm n Z m (nI ρ) (nI r) mo f g = some ((), g') ∧ MIs g' m (32 * ρ + r) ys ∧ Fm m (32 * ρ + r) g g'
    | none => f_X11_addsTerm n Z m (nI ρ) (nI r) mo f g = some ((), sI g m 25 1) := by
  obtain ⟨R, hRe⟩ : ∃ R, R = 32 * ρ + r := ⟨_, rfl⟩
  rw [← hRe] at hP ⊢
  have hR : R < 448 := by omega
  have hsl := spot_le mo xs
  have h18 := madd_l18 (n := n) (f := f) (mo := mo) hZ hR hP (spot mo xs) 0 n (by omega) (by omega) (by have := hP.2.1; omega)
  have e0 : f_X11_addsTerm n Z m (nI ρ) (nI r) mo f g = f_X11_addsTerm_l59 n Z m mo f (nI R) (nI (32 * R)) (nI (spot mo xs)) g := by
    unfold f_X11_addsTerm
    rw [grd_t hZ.k, show ((32 : Int32) * nI ρ) + nI r = nI R by rw [hRe, ← nI_add, ← mIJ]; rfl, show ((32 : Int32) * nI R) = nI (32 * R) by rw [← mIJ]; rfl]
    exact h18
  rw [e0]
  obtain ⟨p1, p2, p3⟩ := id hP
  have h90 : ¬ (spot mo xs < xs.length ∧ lg_cmp (xs.getD (spot mo xs) (0, 0)).1 mo = 0) → f_X11_addsTerm_l59 n Z m mo f (nI R) (nI (32 * R)) (nI (spot mo xs)) g = f_X11_addsTerm_l102 n Z m mo f (nI R) (nI (32 * R)) (nI (spot mo xs)) g := by
    intro hc
    unfold f_X11_addsTerm_l59
    simp (disch := omega) only [hZ.f21, drf_s, hZ.k21, hZ.l21, grd_t, grd_true, inr_eq, clamp, p1]
    by_cases h1 : xs.length ≤ spot mo xs
    · simp (disch := omega) only [nle, if_pos]
    · have h3 := (p3 (spot mo xs) (by omega)).1
      have h4 : ¬ lg_cmp (xs.getD (spot mo xs) (0, 0)).1 mo = 0 := fun q => hc ⟨by omega, q⟩
      simp (disch := omega) only [nle, if_neg, hZ.f22, drf_s, hZ.k22, hZ.l22, grd_t, grd_true, nI_add, inr_eq, clamp, h3, if_neg h4]
  unfold pAdd
  by_cases hc : spot mo xs < xs.length ∧ lg_cmp (xs.getD (spot mo xs) (0, 0)).1 mo = 0
  · rw [if_pos hc]
    have h3 := p3 (spot mo xs) hc.1
    refine ⟨sJ g (m + 17) (32 * R + spot mo xs) ((xs.getD (spot mo xs) (0, 0)).2 + f), ?_, ⟨?_, ?_, ?_⟩, Fm.rfl.sJ (Or.inr rfl) (by omega) (by omega)⟩
    · unfold f_X11_addsTerm_l59
      simp (disch := omega) only [hZ.f21, drf_s, hZ.k21, hZ.l21, grd_t, grd_true, inr_eq, clamp, p1, nle, if_neg, hZ.f22, hZ.k22, hZ.l22, hZ.f23, hZ.k23, hZ.l23, nI_add, h3.1, h3.2, if_pos hc.2]
    · rw [gI_sJ, p1, List.length_set]
    · rw [List.length_set]; exact p2
    · intro k hk
      rw [List.length_set] at hk
      have := p3 k hk
      rw [set_get _ _ _ _ hc.1]
      refine ⟨?_, ?_⟩
      · rw [gJ_sJ, if_neg (by omega), this.1]
        by_cases hks : k = spot mo xs
        · subst hks; simp
        · simp [hks]
      · rw [gJ_sJ]
        by_cases hks : k = spot mo xs
        · subst hks; simp
        · simp (disch := omega) only [if_neg]; exact this.2
  · rw [if_neg hc, h90 hc]
    unfold f_X11_addsTerm_l102
    simp (disch := omega) only [hZ.f21, drf_s, hZ.k21, hZ.l21, grd_t, grd_true, inr_eq, clamp, p1]
    by_cases hl : xs.length < 32
    · rw [if_pos hl]
      obtain ⟨g', e1, f1, f2, f3, f4⟩ := madd_l129 (n := n) (mo := mo) (f := f) (g0 := g) hZ hR (s := xs.length) (sp := spot mo xs) hl p1 hsl (xs.length - spot mo xs) xs.length n g rfl hsl (Nat.le_refl _) (by omega) ⟨Fm.rfl, rfl, fun j => by rw [if_neg (by omega)], fun j => by rw [if_neg (by omega)]⟩
      refine ⟨g', ?_, ⟨?_, ?_, ?_⟩, f1⟩
      · rw [if_neg (fun q => by have := (neqL (by omega) (by omega)).mp q; omega)]
        exact e1
      · rw [insAt_len]; exact f2
      · rw [insAt_len]; exact hl
      · intro k hk
        rw [insAt_len] at hk
        rw [f3, f4, insAt_get _ _ _ _ hsl]
        by_cases h1 : k < spot mo xs
        · have := p3 k (by omega)
          simp (disch := omega) only [if_pos, if_neg, true_and, and_true, and_self, ↓reduceIte]
          exact this
        · by_cases h2 : k = spot mo xs
          · simp [h2]
          · have := p3 (k - 1) (by omega)
            simp (disch := omega) only [if_pos, if_neg, true_and, and_true, and_self, ↓reduceIte]
            exact this
    · rw [if_neg hl, if_pos ((neqL (by omega) (by omega)).mpr (by omega))]

/-! POLYNOMIALS: a list of terms (monomial, coefficient), the greater monomial first -/
def gtU (x y : Int64) : Prop := ¬ lg_cmp (x ^^^ (-9223372036854775808)) (y ^^^ (-9223372036854775808)) ≤ 0
def eqJ (x y : Int64) : Prop := lg_cmp x y = 0
/-- where a monomial belongs -/
def spot (m : Int64) : List (Int64 × Int64) → Nat
  | [] => 0
  | x :: xs => if lg_cmp (x.1 ^^^ (-9223372036854775808)) (m ^^^ (-9223372036854775808)) ≤ 0 then 0 else spot m xs + 1
theorem spot_le (m : Int64) (xs : List (Int64 × Int64)) : spot m xs ≤ xs.length := by
  induction xs with
  | nil => exact Nat.le_refl _
  | cons x xs ih =>
    unfold spot
    split
    · exact Nat.zero_le _
    · simp only [List.length_cons]; omega
theorem spot_lt {m : Int64} {xs : List (Int64 × Int64)} {k : Nat} (h : k < spot m xs) : ¬ lg_cmp ((xs.getD k (0, 0)).1 ^^^ (-9223372036854775808)) (m ^^^ (-9223372036854775808)) ≤ 0 := by
  induction xs generalizing k with
  | nil => simp [spot] at h
  | cons x xs ih =>
    unfold spot at h
    split at h
    · omega
    · rename_i hc
      cases k with
      | zero => exact hc
      | succ k => exact ih (by omega)
theorem spot_at {m : Int64} {xs : List (Int64 × Int64)} (h : spot m xs < xs.length) : lg_cmp ((xs.getD (spot m xs) (0, 0)).1 ^^^ (-9223372036854775808)) (m ^^^ (-9223372036854775808)) ≤ 0 := by
  induction xs with
  | nil => simp [spot] at h
  | cons x xs ih =>
    unfold spot at h ⊢
    split
    · rename_i hc; exact hc
    · rename_i hc
      rw [if_neg hc] at h
      simp only [List.length_cons] at h
      exact ih (by omega)
/-- a thing comes in at a place -/
def insAt {α : Type} : Nat → α → List α → List α
  | 0, v, xs => v :: xs
  | _ + 1, v, [] => [v]
  | s + 1, v, x :: xs => x :: insAt s v xs
theorem insAt_len {α : Type} (s : Nat) (v : α) (xs : List α) : (insAt s v xs).length = xs.length + 1 := by
  induction s generalizing xs with
  | zero => rfl
  | succ s ih => cases xs with
    | nil => rfl
    | cons x xs => simp [insAt, ih]
theorem insAt_get {α : Type} (s : Nat) (v d : α) (xs : List α) (h : s ≤ xs.length) (k : Nat) : (insAt s v xs).getD k d = if k < s then xs.getD k d else if k = s then v else xs.getD (k - 1) d := by
  induction s generalizing xs k with
  | zero =>
    cases k with
    | zero => simp [insAt]
    | succ k => simp [insAt]
  | succ s ih => cases xs with
    | nil => simp at h
    | cons x xs =>
      cases k with
      | zero => simp [insAt]
      | succ k =>
        simp only [insAt, List.getD_cons_succ, ih xs (by simpa using h) k]
        by_cases h1 : k < s
        · simp [h1]
        · by_cases h2 : k = s
          · subst h2; simp
          · have h3 : ¬ k + 1 < s + 1 := by omega
            have h4 : ¬ k + 1 = s + 1 := by omega
            obtain ⟨j, rfl⟩ : ∃ j, k = j + 1 := ⟨k - 1, by omega⟩
            simp [h1, h2, h3, h4]
theorem set_get {α : Type} (s : Nat) (v d : α) (xs : List α) (h : s < xs.length) (k : Nat) : (xs.set s v).getD k d = if k = s then v else xs.getD k d := by
  by_cases h1 : k = s
  · subst h1; simp [List.getD, h]
  · simp [List.getD, List.getElem?_set, h1, Ne.symm h1]
/-- a term is added; none: one too many -/
def pAdd (xs : List (Int64 × Int64)) (m f : Int64) : Option (List (Int64 × Int64)) :=
  if spot m xs < xs.length ∧ lg_cmp (xs.getD (spot m xs) (0, 0)).1 m = 0 then some (xs.set (spot m xs) ((xs.getD (spot m xs) (0, 0)).1, (xs.getD (spot m xs) (0, 0)).2 + f))
  else if xs.length < 32 then some (insAt (spot m xs) (m, f) xs) else none
/-- a stretch of two rows of longs holds the terms -/
def PArr (g : Mem) (am af base : Nat) (xs : List (Int64 × Int64)) : Prop := ∀ k, k < xs.length → gJ g am (base + k) = (xs.getD k (0, 0)).1 ∧ gJ g af (base + k) = (xs.getD k (0, 0)).2
/-- a polynomial of the class -/
def PZ (Z : Zt) (a : Nat) : Prop := zk Z a = 4 ∧ zf Z a 0 = some (a + 1) ∧ zf Z a 1 = some (a + 2) ∧ zk Z (a + 1) = 13 ∧ zk Z (a + 2) = 13 ∧ zl Z (a + 1) = 32 ∧ zl Z (a + 2) = 32
def PIs (g : Mem) (a : Nat) (xs : List (Int64 × Int64)) : Prop := gI g a 2 = nI xs.length ∧ xs.length ≤ 32 ∧ PArr g (a + 1) (a + 2) 0 xs
theorem add_l10 {n : Nat} {Z : Zt} {a : Nat} {m f : Int64} {g : Mem} {xs : List (Int64 × Int64)} (hZ : PZ Z a) (hP : PIs g a xs) : ∀ (d k fu : Nat), d = spot m xs - k → k ≤ spot m xs → d < fu →
    f_X5_addTerm_l10 n Z a fu m f (nI k) (m ^^^ (-9223372036854775808)) g = f_X5_addTerm_l49 n Z a m f (nI (spot m xs)) g := by
  obtain ⟨z1, z2, z3, z4, z5, z6, z7⟩ := hZ
  obtain ⟨p1, p2, p3⟩ := hP
  have hsl := spot_le m xs
  intro d
  induction d with
  | zero =>
    intro k fu hd hk hfu
    obtain ⟨fu, rfl⟩ : ∃ q, fu = q + 1 := ⟨fu - 1, by omega⟩
    have hks : k = spot m xs := by omega
    subst hks
    unfold f_X5_addTerm_l10
    by_cases h1 : xs.length ≤ spot m xs
    · rw [p1, if_pos ((nle (by omega) (by omega)).mpr h1)]
    · rw [p1, if_neg (fun q => h1 ((nle (by omega) (by omega)).mp q))]
      have h2 : ¬ (32 : Int32) ≤ nI (spot m xs) := fun q => by have := (nle (a := 32) (by omega) (by omega)).mp q; omega
      have h3 := (p3 (spot m xs) (by omega)).1
      have h4 := spot_at (m := m) (xs := xs) (by omega)
      simp only [if_neg h2, z2, drf_s, z4, grd_true, z6]
      rw [grd_t (inr_n (by omega) (by omega)), clamp (by omega)]
      rw [show spot m xs = 0 + spot m xs from (Nat.zero_add _).symm, h3]
      simp only [Nat.zero_add]
      rw [if_pos h4]
  | succ d ih =>
    intro k fu hd hk hfu
    obtain ⟨fu, rfl⟩ : ∃ q, fu = q + 1 := ⟨fu - 1, by omega⟩
    unfold f_X5_addTerm_l10
    rw [p1, if_neg (fun q => by have := (nle (by omega) (by omega)).mp q; omega)]
    have h2 : ¬ (32 : Int32) ≤ nI k := fun q => by have := (nle (a := 32) (by omega) (by omega)).mp q; omega
    have h3 := (p3 k (by omega)).1
    have h4 := spot_lt (m := m) (xs := xs) (k := k) (by omega)
    simp only [if_neg h2, z2, drf_s, z4, grd_true, z6]
    rw [grd_t (inr_n (by omega) (by omega)), clamp (by omega), ← Nat.zero_add k, h3, Nat.zero_add, if_neg h4, nI_1]
    exact ih (k + 1) fu (by omega) (by omega) (by omega)
theorem PArr.fr {g g' : Mem} {am af base lo hi : Nat} {xs : List (Int64 × Int64)} (h : PArr g am af base xs) (hF : Fr lo hi g g') (h1 : am < lo ∨ hi ≤ am) (h2 : af < lo ∨ hi ≤ af) : PArr g' am af base xs := fun k hk => ⟨(hF.j h1 _).trans (h k hk).1, (hF.j h2 _).trans (h k hk).2⟩
theorem PIs.fr {g g' : Mem} {a lo hi : Nat} {xs : List (Int64 × Int64)} (h : PIs g a xs) (hF : Fr lo hi g g') (h1 : a + 3 ≤ lo ∨ hi ≤ a) : PIs g' a xs := ⟨(hF.i (by omega) _).trans h.1, h.2.1, h.2.2.fr hF (by omega) (by omega)⟩
/-- the shift: what lay at places from the spot on lies one further -/
def Shf (g0 g : Mem) (a i s : Nat) : Prop := Fr a (a + 3) g0 g ∧ gI g a 2 = gI g0 a 2 ∧ (∀ j, gJ g (a + 1) j = if i < j ∧ j ≤ s then gJ g0 (a + 1) (j - 1) else gJ g0 (a + 1) j) ∧ ∀ j, gJ g (a + 2) j = if i < j ∧ j ≤ s then gJ g0 (a + 2) (j - 1) else gJ g0 (a + 2) j
theorem add_l107 {n : Nat} {Z : Zt} {a sp s : Nat} {m f : Int64} {g0 : Mem} (hZ : PZ Z a) (hs : s < 32) (hsz : gI g0 a 2 = nI s) (hsp : sp ≤ s) : ∀ (d i fu : Nat) (g : Mem), d = i - sp → sp ≤ i → i ≤ s → d < fu → Shf g0 g a i s →
    ∃ g', f_X5_addTerm_l107 n Z a fu m f (nI sp) (nI i) g = some (1, g') ∧ Fr a (a + 3) g0 g' ∧ gI g' a 2 = nI (s + 1) ∧ (∀ j, gJ g' (a + 1) j = if j = sp then m else if sp < j ∧ j ≤ s then gJ g0 (a + 1) (j - 1) else gJ g0 (a + 1) j) ∧ ∀ j, gJ g' (a + 2) j = if j = sp then f else if sp < j ∧ j ≤ s then gJ g0 (a + 2) (j - 1) else gJ g0 (a + 2) j := by
  obtain ⟨z1, z2, z3, z4, z5, z6, z7⟩ := hZ
  intro d
  induction d with
  | zero =>
    intro i fu g hd h1 h2 hfu hS
    obtain ⟨fu, rfl⟩ : ∃ q, fu = q + 1 := ⟨fu - 1, by omega⟩
    have hi : i = sp := by omega
    subst hi
    obtain ⟨s1, s2, s3, s4⟩ := hS
    unfold f_X5_addTerm_l107
    simp (disch := omega) only [nle, if_pos, z2, z3, drf_s, grd_t, inr_eq, z6, z7, clamp]
    refine ⟨_, rfl, ((s1.sJ (by omega) (by omega)).sJ (by omega) (by omega)).sI (by omega) (by omega), ?_, ?_, ?_⟩
    · simp [gI_sI, gI_sJ, s2, hsz, nI_1]
    · intro j
      simp only [gJ_sI, gJ_sJ, s3]
      by_cases hj : j = i
      · simp [hj]
      · simp [hj]
    · intro j
      simp only [gJ_sI, gJ_sJ, s4]
      by_cases hj : j = i
      · simp [hj]
      · simp [hj]
  | succ d ih =>
    intro i fu g hd h1 h2 hfu hS
    obtain ⟨fu, rfl⟩ : ∃ q, fu = q + 1 := ⟨fu - 1, by omega⟩
    obtain ⟨s1, s2, s3, s4⟩ := hS
    unfold f_X5_addTerm_l107
    have e1 : nI i - (1 : Int32) = nI (i - 1) := subN (a := i) (b := 1) (by omega)
    have e2 : nI i + (-1 : Int32) = nI (i - 1) := m1N (by omega)
    have hc : ¬ i ≤ sp := by omega
    simp (disch := omega) only [nle, if_neg hc, z2, z3, drf_s, grd_t, inr_eq, z6, z7, clamp, e1, e2]
    refine ih (i - 1) fu _ (by omega) (by omega) (by omega) (by omega) ⟨(s1.sJ (by omega) (by omega)).sJ (by omega) (by omega), by simp [gI_sJ, s2], fun j => ?_, fun j => ?_⟩
    · by_cases hj : j = i
      · subst hj
        simp (disch := omega) only [gJ_sJ, s3, if_pos, if_neg, and_self, ↓reduceIte]
      · by_cases h6 : i < j ∧ j ≤ s
        · simp (disch := omega) only [gJ_sJ, s3, if_pos, if_neg, and_self, ↓reduceIte]
        · simp (disch := omega) only [gJ_sJ, s3, if_pos, if_neg, and_self, ↓reduceIte]
    · by_cases hj : j = i
      · subst hj
        simp (disch := omega) only [gJ_sJ, s4, if_pos, if_neg, and_self, ↓reduceIte]
      · by_cases h6 : i < j ∧ j ≤ s
        · simp (disch := omega) only [gJ_sJ, s4, if_pos, if_neg, and_self, ↓reduceIte]
        · simp (disch := omega) only [gJ_sJ, s4, if_pos, if_neg, and_self, ↓reduceIte]
/-- Polynomial.addTerm -/
theorem add_term {n : Nat} {Z : Zt} {a : Nat} {m f : Int64} {g : Mem} {xs : List (Int64 × Int64)} (hn : 40 ≤ n) (hZ : PZ Z a) (hP : PIs g a xs) :
    match pAdd xs m f with
    | some ys => ∃ g', f_X5_addTerm n Z a m f g = some (1, g') ∧ PIs g' a ys ∧ Fr a (a + 3) g g'
    | none => f_X5_addTerm n Z a m f g = some (0, g) := by
  have hsl := spot_le m xs
  have h10 := add_l10 (n := n) (f := f) (m := m) hZ hP (spot m xs) 0 n (by omega) (by omega) (by have := hP.2.1; omega)
  have e0 : f_X5_addTerm n Z a m f g = f_X5_addTerm_l49 n Z a m f (nI (spot m xs)) g := by
    unfold f_X5_addTerm
    rw [grd_t hZ.1]
    exact h10
  rw [e0]
  obtain ⟨z1, z2, z3, z4, z5, z6, z7⟩ := id hZ
  obtain ⟨p1, p2, p3⟩ := id hP
  have h90 : ¬ (spot m xs < xs.length ∧ lg_cmp (xs.getD (spot m xs) (0, 0)).1 m = 0) → f_X5_addTerm_l49 n Z a m f (nI (spot m xs)) g = f_X5_addTerm_l90 n Z a m f (nI (spot m xs)) g := by
    intro hc
    unfold f_X5_addTerm_l49
    by_cases h1 : xs.length ≤ spot m xs
    · rw [p1, if_pos ((nle (by omega) (by omega)).mpr h1)]
    · have h2 : ¬ (32 : Int32) ≤ nI (spot m xs) := fun q => by have := (nle (a := 32) (by omega) (by omega)).mp q; omega
      have h3 := (p3 (spot m xs) (by omega)).1
      rw [Nat.zero_add] at h3
      have h4 : ¬ lg_cmp (xs.getD (spot m xs) (0, 0)).1 m = 0 := fun q => hc ⟨by omega, q⟩
      rw [p1, if_neg (fun q => h1 ((nle (by omega) (by omega)).mp q)), if_neg h2]
      simp (disch := omega) only [z2, drf_s, grd_t, inr_eq, z6, clamp, h3, if_neg h4]
  unfold pAdd
  by_cases hc : spot m xs < xs.length ∧ lg_cmp (xs.getD (spot m xs) (0, 0)).1 m = 0
  · rw [if_pos hc]
    have h2 : ¬ (32 : Int32) ≤ nI (spot m xs) := fun q => by have := (nle (a := 32) (by omega) (by omega)).mp q; omega
    have h3 := p3 (spot m xs) hc.1
    rw [Nat.zero_add] at h3
    have h5 : ¬ nI xs.length ≤ nI (spot m xs) := fun q => by have := (nle (by omega) (by omega)).mp q; omega
    refine ⟨sJ g (a + 2) (spot m xs) ((xs.getD (spot m xs) (0, 0)).2 + f), ?_, ⟨?_, ?_, ?_⟩, Fr.rfl.sJ (by omega) (by omega)⟩
    · unfold f_X5_addTerm_l49
      rw [p1, if_neg h5, if_neg h2]
      simp (disch := omega) only [z2, z3, drf_s, grd_t, inr_eq, z6, z7, clamp, h3.1, h3.2, if_pos hc.2]
    · rw [gI_sJ, p1, List.length_set]
    · rw [List.length_set]; exact p2
    · intro k hk
      rw [List.length_set] at hk
      have := p3 k hk
      rw [Nat.zero_add] at this ⊢
      rw [set_get _ _ _ _ hc.1]
      refine ⟨?_, ?_⟩
      · rw [gJ_sJ, if_neg (by omega), this.1]
        by_cases hks : k = spot m xs
        · subst hks; simp
        · simp [hks]
      · rw [gJ_sJ]
        by_cases hks : k = spot m xs
        · subst hks; simp
        · simp only [hks, and_false, if_false]; exact this.2
  · rw [if_neg hc, h90 hc]
    by_cases hl : xs.length < 32
    · rw [if_pos hl]
      obtain ⟨g', e1, f1, f2, f3, f4⟩ := add_l107 (n := n) (m := m) (f := f) (g0 := g) hZ (s := xs.length) (sp := spot m xs) hl p1 hsl (xs.length - spot m xs) xs.length n g rfl hsl (Nat.le_refl _) (by omega) ⟨Fr.rfl, rfl, fun j => by rw [if_neg (by omega)], fun j => by rw [if_neg (by omega)]⟩
      refine ⟨g', ?_, ⟨?_, ?_, ?_⟩, f1⟩
      · unfold f_X5_addTerm_l90
        rw [p1, if_pos ((nltL (by omega) (by omega)).mpr hl)]
        exact e1
      · rw [insAt_len]; exact f2
      · rw [insAt_len]; exact hl
      · intro k hk
        rw [insAt_len] at hk
        rw [Nat.zero_add, f3, f4, insAt_get _ _ _ _ hsl]
        by_cases h1 : k < spot m xs
        · have := p3 k (by omega)
          rw [Nat.zero_add] at this
          simp (disch := omega) only [if_pos, if_neg]
          exact this
        · by_cases h2 : k = spot m xs
          · simp [h2]
          · have := p3 (k - 1) (by omega)
            rw [Nat.zero_add] at this
            simp (disch := omega) only [if_pos, if_neg]
            exact this
    · rw [if_neg hl]
      unfold f_X5_addTerm_l90
      rw [p1, if_neg (fun q => hl ((nltL (by omega) (by omega)).mp q))]

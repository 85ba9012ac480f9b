/-! READING POLYNOMIALS, SUMS AND PRODUCTS (the class) -/
theorem p_size {n : Nat} {Z : Zt} {a : Nat} {g : Mem} {xs : Pol} (hZ : PZ Z a) (hP : PIs g a xs) : f_X5_size n Z a g = some (nI xs.length, g) := by
  unfold f_X5_size
  rw [grd_t hZ.1, hP.1]
theorem p_has {n : Nat} {Z : Zt} {a k : Nat} {g : Mem} {xs : Pol} (hZ : PZ Z a) (hP : PIs g a xs) (hk : k < xs.length) : f_X5_hasTerm n Z a (nI k) g = some (1, g) := by
  have := hP.2.1
  unfold f_X5_hasTerm
  simp (disch := omega) only [grd_t, hZ.1, grd_true, hP.1, not_neg, nle, Lnle, if_neg, if_false]
theorem p_mono {n : Nat} {Z : Zt} {a k : Nat} {g : Mem} {xs : Pol} (hZ : PZ Z a) (hP : PIs g a xs) (hk : k < xs.length) : f_X5_monomialAt n Z a (nI k) g = some ((xs.getD k (0, 0)).1, g) := by
  have := hP.2.1
  have h3 := (hP.2.2 k hk).1
  rw [Nat.zero_add] at h3
  obtain ⟨z1, z2, z3, z4, z5, z6, z7⟩ := id hZ
  unfold f_X5_monomialAt
  rw [grd_t hZ.1, p_has hZ hP hk, bnd_s, if_neg (by decide)]
  simp (disch := omega) only [z2, z4, z6, drf_s, grd_t, grd_true, inr_eq, clamp, h3]
theorem p_fact {n : Nat} {Z : Zt} {a k : Nat} {g : Mem} {xs : Pol} (hZ : PZ Z a) (hP : PIs g a xs) (hk : k < xs.length) : f_X5_factorAt n Z a (nI k) g = some ((xs.getD k (0, 0)).2, g) := by
  have := hP.2.1
  have h3 := (hP.2.2 k hk).2
  rw [Nat.zero_add] at h3
  obtain ⟨z1, z2, z3, z4, z5, z6, z7⟩ := id hZ
  unfold f_X5_factorAt
  rw [grd_t hZ.1, p_has hZ hP hk, bnd_s, if_neg (by decide)]
  simp (disch := omega) only [z3, z5, z7, drf_s, grd_t, grd_true, inr_eq, clamp, h3]
theorem p_clear {n : Nat} {Z : Zt} {a : Nat} {g : Mem} (hZ : PZ Z a) : f_X5_clear n Z a g = some ((), sI g a 2 0) := by
  unfold f_X5_clear
  rw [grd_t hZ.1]
theorem p_clear_is {a : Nat} {g : Mem} : PIs (sI g a 2 0) a [] ∧ Fr a (a + 3) g (sI g a 2 0) := ⟨⟨by rw [gI_sI, if_pos ⟨rfl, rfl⟩]; rfl, Nat.zero_le _, fun k hk => absurd hk (Nat.not_lt_zero _)⟩, Fr.rfl.sI (by omega) (by omega)⟩
/-- terms are added, one after the other -/
def pAddL : Pol → Pol → Option Pol
  | xs, [] => some xs
  | xs, y :: ys => match pAdd xs y.1 y.2 with
    | none => none
    | some zs => pAddL zs ys
theorem pAddL_app (xs u v : Pol) : pAddL xs (u ++ v) = (pAddL xs u).bind fun zs => pAddL zs v := by
  induction u generalizing xs with
  | nil => rfl
  | cons y u ih =>
    simp only [List.cons_append, pAddL]
    cases pAdd xs y.1 y.2 with
    | none => rfl
    | some zs => exact ih zs
theorem drop_one {α : Type} (ys : List α) (k : Nat) (d : α) (h : k < ys.length) : ys.drop k = ys.getD k d :: ys.drop (k + 1) := by
  rw [List.drop_eq_getElem_cons h]
  congr 1
  simp [List.getD, h]
/-- how adding ends -/
def ARes (f : Option (Int32 × Mem)) (g : Mem) (a : Nat) (o : Option Pol) : Prop := match o with
  | some zs => ∃ g', f = some (1, g') ∧ PIs g' a zs ∧ Fr a (a + 3) g g'
  | none => ∃ g' zs, f = some (0, g') ∧ PIs g' a zs ∧ Fr a (a + 3) g g'
theorem ARes.pre {f : Option (Int32 × Mem)} {g g1 : Mem} {a : Nat} {o : Option Pol} (h : ARes f g1 a o) (hF : Fr a (a + 3) g g1) : ARes f g a o := by
  cases o with
  | none => obtain ⟨g', zs, e, h1, h2⟩ := h; exact ⟨g', zs, e, h1, hF.trans h2⟩
  | some zs => obtain ⟨g', e, h1, h2⟩ := h; exact ⟨g', e, h1, hF.trans h2⟩
theorem add_res {n : Nat} {Z : Zt} {a : Nat} {m f : Int64} {g : Mem} {xs : Pol} (hn : 40 ≤ n) (hZ : PZ Z a) (hP : PIs g a xs) : ARes (f_X5_addTerm n Z a m f g) g a (pAdd xs m f) := by
  have h := add_term (m := m) (f := f) hn hZ hP
  cases hp : pAdd xs m f with
  | none => rw [hp] at h; exact ⟨g, xs, h, hP, Fr.rfl⟩
  | some ys => rw [hp] at h; exact h
theorem addAll_l2 {n : Nat} {Z : Zt} {a q : Nat} {ys : Pol} (hn : 40 ≤ n) (hZ : PZ Z a) (hZq : PZ Z q) (hd : q + 3 ≤ a ∨ a + 3 ≤ q) : ∀ (d k fu : Nat) (g : Mem) (xs : Pol), d = ys.length - k → k ≤ ys.length → d < fu → PIs g a xs → PIs g q ys →
    ARes (f_X5_addAll_l2 n Z a fu q (nI k) g) g a (pAddL xs (ys.drop k)) := by
  obtain ⟨z1, z2, z3, z4, z5, z6, z7⟩ := id hZq
  intro d
  induction d with
  | zero =>
    intro k fu g xs h1 h2 h3 hP hQ
    obtain ⟨fu, rfl⟩ : ∃ q, fu = q + 1 := ⟨fu - 1, by omega⟩
    have hl := hQ.2.1
    have hk : k = ys.length := by omega
    subst hk
    rw [List.drop_length]
    refine ⟨g, ?_, hP, Fr.rfl⟩
    unfold f_X5_addAll_l2
    simp (disch := omega) only [z1, grd_true, hQ.1, nle, if_pos, Nat.le_refl, if_true]
  | succ d ih =>
    intro k fu g xs h1 h2 h3 hP hQ
    obtain ⟨fu, rfl⟩ : ∃ q, fu = q + 1 := ⟨fu - 1, by omega⟩
    have hl := hQ.2.1
    have hk := hQ.2.2 k (by omega)
    rw [Nat.zero_add] at hk
    rw [drop_one ys k (0, 0) (by omega)]
    have hA := add_res (m := (ys.getD k (0, 0)).1) (f := (ys.getD k (0, 0)).2) hn hZ hP
    unfold f_X5_addAll_l2
    simp (disch := omega) only [z1, z2, z3, z4, z5, z6, z7, grd_true, grd_t, hQ.1, nle, Lnle, if_neg, drf_s, inr_eq, clamp, hk.1, hk.2]
    unfold pAddL
    cases hp : pAdd xs (ys.getD k (0, 0)).1 (ys.getD k (0, 0)).2 with
    | none =>
      rw [hp] at hA
      obtain ⟨g', zs, e, h4, h5⟩ := hA
      rw [e, bnd_s, if_pos rfl]
      exact ⟨g', zs, rfl, h4, h5⟩
    | some zs =>
      rw [hp] at hA
      obtain ⟨g', e, h4, h5⟩ := hA
      rw [e, bnd_s, if_neg (by decide), nI_1]
      exact (ih (k + 1) fu g' zs (by omega) (by omega) (by omega) h4 (hQ.fr h5 (by omega))).pre h5
theorem add_all {n : Nat} {Z : Zt} {a q : Nat} {g : Mem} {xs ys : Pol} (hn : 40 ≤ n) (hZ : PZ Z a) (hZq : PZ Z q) (hd : q + 3 ≤ a ∨ a + 3 ≤ q) (hP : PIs g a xs) (hQ : PIs g q ys) : ARes (f_X5_addAll n Z a q g) g a (pAddL xs ys) := by
  unfold f_X5_addAll
  rw [grd_t hZ.1]
  exact addAll_l2 hn hZ hZq hd ys.length 0 n g xs (by omega) (by omega) (by have := hQ.2.1; omega) hP hQ
/-- the terms of a product -/
def pMulT (A B : Pol) : Pol := A.flatMap fun a => B.map fun b => (a.1 + b.1, a.2 * b.2)
/-- how an inner loop ends: with the outer one, or for good -/
def KRes (f : Option (Int32 × Mem)) (κ : Mem → Option (Int32 × Mem)) (g : Mem) (a : Nat) (o : Option Pol) : Prop := match o with
  | some zs => ∃ g', f = κ g' ∧ PIs g' a zs ∧ Fr a (a + 3) g g'
  | none => ∃ g' zs, f = some (0, g') ∧ PIs g' a zs ∧ Fr a (a + 3) g g'
theorem addProd_l19 {n : Nat} {Z : Zt} {a p q i : Nat} {A B : Pol} {κ : Nat → Nat → Int32 → Mem → Option (Int32 × Mem)} (hn : 40 ≤ n) (hZ : PZ Z a) (hZp : PZ Z p) (hZq : PZ Z q) (hdp : p + 3 ≤ a ∨ a + 3 ≤ p) (hdq : q + 3 ≤ a ∨ a + 3 ≤ q) (hi : i < A.length) : ∀ (d k fu : Nat) (g : Mem) (xs : Pol), d = B.length - k → k ≤ B.length → d < fu → PIs g a xs → PIs g p A → PIs g q B →
    KRes (f_X5_addProduct_l19 n Z κ a fu p q (nI i) (nI k) g) (κ p q (nI i + 1)) g a (pAddL xs ((B.drop k).map fun b => ((A.getD i (0, 0)).1 + b.1, (A.getD i (0, 0)).2 * b.2))) := by
  obtain ⟨z1, z2, z3, z4, z5, z6, z7⟩ := id hZq
  obtain ⟨y1, y2, y3, y4, y5, y6, y7⟩ := id hZp
  intro d
  induction d with
  | zero =>
    intro k fu g xs h1 h2 h3 hP hA hQ
    obtain ⟨fu, rfl⟩ : ∃ q, fu = q + 1 := ⟨fu - 1, by omega⟩
    have hl := hQ.2.1
    have hk : k = B.length := by omega
    subst hk
    rw [List.drop_length]
    refine ⟨g, ?_, hP, Fr.rfl⟩
    unfold f_X5_addProduct_l19
    simp (disch := omega) only [z1, grd_true, hQ.1, nle, if_pos, Nat.le_refl, if_true]
  | succ d ih =>
    intro k fu g xs h1 h2 h3 hP hA hQ
    obtain ⟨fu, rfl⟩ : ∃ q, fu = q + 1 := ⟨fu - 1, by omega⟩
    have hl := hQ.2.1
    have hla := hA.2.1
    have hk := hQ.2.2 k (by omega)
    rw [Nat.zero_add] at hk
    have hj := hA.2.2 i hi
    rw [Nat.zero_add] at hj
    rw [drop_one B k (0, 0) (by omega), List.map_cons]
    have hR := add_res (m := (A.getD i (0, 0)).1 + (B.getD k (0, 0)).1) (f := (A.getD i (0, 0)).2 * (B.getD k (0, 0)).2) hn hZ hP
    unfold f_X5_addProduct_l19
    simp (disch := omega) only [z1, z2, z3, z4, z5, z6, z7, y1, y2, y3, y4, y5, y6, y7, grd_true, grd_t, hQ.1, nle, Lnle, if_neg, drf_s, inr_eq, clamp, hk.1, hk.2, hj.1, hj.2]
    unfold pAddL
    cases hp : pAdd xs ((A.getD i (0, 0)).1 + (B.getD k (0, 0)).1) ((A.getD i (0, 0)).2 * (B.getD k (0, 0)).2) with
    | none =>
      rw [hp] at hR
      obtain ⟨g', zs, e, h4, h5⟩ := hR
      rw [e, bnd_s, if_pos rfl]
      simp only [hp]
      exact ⟨g', zs, rfl, h4, h5⟩
    | some zs =>
      rw [hp] at hR
      obtain ⟨g', e, h4, h5⟩ := hR
      rw [e, bnd_s, if_neg (by decide), nI_1]
      simp only [hp]
      have hI := ih (k + 1) fu g' zs (by omega) (by omega) (by omega) h4 (hA.fr h5 (by omega)) (hQ.fr h5 (by omega))
      revert hI
      cases pAddL zs ((B.drop (k + 1)).map fun b => ((A.getD i (0, 0)).1 + b.1, (A.getD i (0, 0)).2 * b.2)) with
      | none => rintro ⟨g2, zs2, e2, h6, h7⟩; exact ⟨g2, zs2, e2, h6, h5.trans h7⟩
      | some zs2 => rintro ⟨g2, e2, h6, h7⟩; exact ⟨g2, e2, h6, h5.trans h7⟩
theorem addProd_l2 {n : Nat} {Z : Zt} {a p q : Nat} {A B : Pol} (hn : 40 ≤ n) (hZ : PZ Z a) (hZp : PZ Z p) (hZq : PZ Z q) (hdp : p + 3 ≤ a ∨ a + 3 ≤ p) (hdq : q + 3 ≤ a ∨ a + 3 ≤ q) : ∀ (d i fu : Nat) (g : Mem) (xs : Pol), d = A.length - i → i ≤ A.length → d < fu → PIs g a xs → PIs g p A → PIs g q B →
    ARes (f_X5_addProduct_l2 n Z a fu p q (nI i) g) g a (pAddL xs (pMulT (A.drop i) B)) := by
  obtain ⟨y1, y2, y3, y4, y5, y6, y7⟩ := id hZp
  intro d
  induction d with
  | zero =>
    intro i fu g xs h1 h2 h3 hP hA hQ
    obtain ⟨fu, rfl⟩ : ∃ q, fu = q + 1 := ⟨fu - 1, by omega⟩
    have hl := hA.2.1
    have hk : i = A.length := by omega
    subst hk
    rw [List.drop_length]
    refine ⟨g, ?_, hP, Fr.rfl⟩
    unfold f_X5_addProduct_l2
    simp (disch := omega) only [y1, grd_true, hA.1, nle, if_pos, Nat.le_refl, if_true]
  | succ d ih =>
    intro i fu g xs h1 h2 h3 hP hA hQ
    obtain ⟨fu, rfl⟩ : ∃ q, fu = q + 1 := ⟨fu - 1, by omega⟩
    have hl := hA.2.1
    rw [drop_one A i (0, 0) (by omega)]
    show ARes _ g a (pAddL xs (List.flatMap _ (_ :: _)))
    rw [List.flatMap_cons, pAddL_app]
    unfold f_X5_addProduct_l2
    simp (disch := omega) only [y1, grd_true, hA.1, nle, Lnle, if_neg]
    have hI := addProd_l19 (i := i) (κ := fun y0 y1 y2 y => f_X5_addProduct_l2 n Z a fu y0 y1 y2 y) hn hZ hZp hZq hdp hdq (by omega) B.length 0 n g xs (by omega) (by omega) (by have := hQ.2.1; omega) hP hA hQ
    rw [List.drop_zero] at hI
    revert hI
    cases pAddL xs (B.map fun b => ((A.getD i (0, 0)).1 + b.1, (A.getD i (0, 0)).2 * b.2)) with
    | none => rintro ⟨g2, zs2, e2, h6, h7⟩; exact ⟨g2, zs2, e2, h6, h7⟩
    | some zs2 =>
      rintro ⟨g2, e2, h6, h7⟩
      have e3 : f_X5_addProduct_l19 n Z (fun y0 y1 y2 y => f_X5_addProduct_l2 n Z a fu y0 y1 y2 y) a n p q (nI i) 0 g = f_X5_addProduct_l2 n Z a fu p q (nI i + 1) g2 := e2
      rw [e3, nI_1]
      exact (ih (i + 1) fu g2 zs2 (by omega) (by omega) (by omega) h6 (hA.fr h7 (by omega)) (hQ.fr h7 (by omega))).pre h7
theorem add_prod {n : Nat} {Z : Zt} {a p q : Nat} {g : Mem} {xs A B : Pol} (hn : 40 ≤ n) (hZ : PZ Z a) (hZp : PZ Z p) (hZq : PZ Z q) (hdp : p + 3 ≤ a ∨ a + 3 ≤ p) (hdq : q + 3 ≤ a ∨ a + 3 ≤ q) (hP : PIs g a xs) (hA : PIs g p A) (hQ : PIs g q B) : ARes (f_X5_addProduct n Z a p q g) g a (pAddL xs (pMulT A B)) := by
  unfold f_X5_addProduct
  rw [grd_t hZ.1]
  exact addProd_l2 hn hZ hZp hZq hdp hdq A.length 0 n g xs (by omega) (by omega) (by have := hA.2.1; omega) hP hA hQ

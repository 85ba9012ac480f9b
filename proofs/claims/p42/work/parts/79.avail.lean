/-! setWithdrawn, lostIf, lineage, what is available -/
section AVAIL
variable {n : Nat} {Z : Zt} {c m : Nat} {g : Mem}
theorem c_prows {M : Nat} {v : Vl} {p : Nat → Bool} (hn : 40 ≤ n) (hC : CZ Z c) (h : EA g (c + 67) v) (hG : BM M p) : ∃ q, f_X0_answer n Z (c + 67) g = some (some q, g) ∧ f_X7_countPresent n Z q (nI M) g = some (nI (cntP p v.2), g) := by
  obtain ⟨q, π, h1, h2, h3, h4⟩ := h.at hC.ev
  refine ⟨q, ?_, c_count hn h2 h3 hG⟩
  unfold f_X0_answer; rw [grd_t hC.ev.1.1, h1, nam_s]
/-- tags that a mask may hold -/
theorem tags_in {M t : Nat} (hM : M < 65536) (ht : t < 2147483648) : (nI t &&& (nI M ^^^ (-1)) = 0 ↔ nI t &&& nI M = nI t) ∧ (nI t &&& nI M = nI t → t < 65536) := by
  have h1 : M ^^^ 4294967295 < 2 ^ 32 := Nat.xor_lt_two_pow (by omega) (by omega)
  have e1 : nI t &&& (nI M ^^^ (-1)) = nI (t &&& (M ^^^ 4294967295)) := by
    rw [show (-1 : Int32) = nI 4294967295 from rfl, xor_n (by omega) (by omega), and_n (by omega) (by omega)]
  have e2 : nI t &&& nI M = nI (t &&& M) := and_n (by omega) (by omega)
  have l1 : t &&& (M ^^^ 4294967295) ≤ t := Nat.and_le_left
  have l2 : t &&& M ≤ t := Nat.and_le_left
  have l3 : t &&& M ≤ M := Nat.and_le_right
  have key : (t &&& (M ^^^ 4294967295) = 0) ↔ t &&& M = t := by
    have hb : ∀ i, (t &&& (M ^^^ 4294967295)).testBit i = (t.testBit i && !(M.testBit i)) := fun i => by
      rw [Nat.testBit_and, Nat.testBit_xor, show (4294967295 : Nat) = 2 ^ 32 - 1 from rfl, Nat.testBit_two_pow_sub_one]
      by_cases hi : i < 32
      · simp [hi]
      · have ht' : t.testBit i = false := Nat.testBit_lt_two_pow (Nat.lt_of_lt_of_le (show t < 2 ^ 31 from ht) (Nat.pow_le_pow_right (by omega) (by omega)))
        rw [ht']; simp
    constructor
    · intro h
      apply Nat.eq_of_testBit_eq
      intro i
      have := hb i
      rw [h, Nat.zero_testBit] at this
      rw [Nat.testBit_and]
      revert this
      generalize t.testBit i = A
      generalize M.testBit i = B
      cases A <;> cases B <;> decide
    · intro h
      apply Nat.eq_of_testBit_eq
      intro i
      rw [hb i, Nat.zero_testBit]
      have := congrArg (fun z => z.testBit i) h
      simp only [Nat.testBit_and] at this
      revert this
      generalize t.testBit i = A
      generalize M.testBit i = B
      cases A <;> cases B <;> decide
  refine ⟨?_, fun h => ?_⟩
  · rw [e1, e2, show (0 : Int32) = nI 0 from rfl, neq (by omega) (by omega), neq (by omega) (by omega)]; exact key
  · rw [e2, neq (by omega) (by omega)] at h; omega
theorem or_bm {M t : Nat} {p : Nat → Bool} (h : BM M p) (ht : t < 65536) : BM (M ||| t) fun s => p s || t.testBit s := ⟨Nat.or_lt_two_pow (n := 16) h.1 ht, fun s hs => by rw [Nat.testBit_or, h.2 s hs]⟩
/-! lineage -/
def orK (xs : Pol) : Int64 → Int64 := fun a => xs.foldl (fun s x => s ||| x.1) a
theorem tsN_or (x y : Int64) : tsN (x ||| y) = tsN x ||| tsN y := by
  have h1 := tsN_lt x
  have h2 := tsN_lt y
  apply (bm_mk (sB (x ||| y))).uniq
  refine ⟨Nat.or_lt_two_pow (n := 16) h1 h2, fun t ht => ?_⟩
  rw [Nat.testBit_or, tsN_bit ht, tsN_bit ht]
  unfold sB
  rw [ex_or]
  by_cases q1 : ex x t = 0
  · by_cases q2 : ex y t = 0
    · simp [q1, q2]
    · simp [q1, q2]
  · have : ex x t ||| ex y t ≠ 0 := fun z => by
      have h : ex x t ≤ ex x t ||| ex y t := Nat.left_le_or
      omega
    simp [q1, this]
theorem allTags_l4 {a : Nat} {xs : Pol} (hn : 40 ≤ n) (hZ : PZ Z a) (h : PIs g a xs) : ∀ (d j fu : Nat) (y : Int64), d = xs.length - j → j ≤ xs.length → d < fu → f_X5_allTags_l4 n Z a fu y (nI j) g = some (nI (tsN ((xs.drop j).foldl (fun s x => s ||| x.1) y)), g) := by
  have h32 := h.2.1
  intro d
  induction d with
  | zero =>
    intro j fu y h1 h2 h3
    obtain ⟨fu, rfl⟩ : ∃ q, fu = q + 1 := ⟨fu - 1, by omega⟩
    have hj : j = xs.length := by omega
    subst hj
    unfold f_X5_allTags_l4
    rw [h.1, if_pos ((nle (by omega) (by omega)).mpr (Nat.le_refl _)), c_tagSet hn, bnd_s, List.drop_length]; rfl
  | succ d ih =>
    intro j fu y h1 h2 h3
    obtain ⟨fu, rfl⟩ : ∃ q, fu = q + 1 := ⟨fu - 1, by omega⟩
    have hj : j < xs.length := by omega
    unfold f_X5_allTags_l4
    rw [h.1, if_neg (ge_n (by omega) hj), p_mono hZ h hj, bnd_s, nI_1, ih (j + 1) fu _ (by omega) (by omega) (by omega), drop_cons (0, 0) hj]
    rfl
theorem c_lin {a : Nat} {xs : Pol} (hn : 40 ≤ n) (hZ : PZ Z a) (h : PIs g a xs) : f_X5_allTags n Z a g = some (nI (tsN (orK xs 0)), g) := by
  have h32 := h.2.1
  unfold f_X5_allTags
  rw [grd_t hZ.1]
  exact allTags_l4 hn hZ h xs.length 0 n 0 (by omega) (by omega) (by omega)
theorem ts0 : tsN 0 = 0 := by decide +kernel
/-! what is available of a polynomial -/
def fav (p : Nat → Bool) (xs : Pol) : Pol := xs.filter fun a => avl p a.1
theorem pIns_end {m f : Int64} : ∀ {xs : Pol}, (∀ a ∈ xs, uN m < uN a.1) → pIns m f xs = xs ++ [(m, f)]
  | [], _ => rfl
  | x :: xs, h => by
    rw [pIns, if_pos (h x (List.mem_cons_self ..)), pIns_end fun a ha => h a (List.mem_cons_of_mem _ ha)]; rfl
theorem pAdd_end {m f : Int64} {xs : Pol} (h : ∀ a ∈ xs, uN m < uN a.1) (hl : xs.length < 32) : pAdd xs m f = some (xs ++ [(m, f)]) := by
  rw [pAdd_eq, if_pos (Or.inr hl), pIns_end h]
theorem take_succ' {xs : Pol} {j : Nat} (hj : j < xs.length) : xs.take (j + 1) = xs.take j ++ [xs.getD j (0, 0)] := by
  rw [List.take_succ, List.getD, List.getElem?_eq_getElem hj]; rfl
theorem so_take {xs : Pol} (h : PSo xs) {j : Nat} (hj : j < xs.length) : ∀ a ∈ xs.take j, uN (xs.getD j (0, 0)).1 < uN a.1 := by
  have h1 : PSo (xs.take j ++ xs.drop j) := by rw [List.take_append_drop]; exact h
  obtain ⟨-, -, h2⟩ := List.pairwise_append.mp h1
  intro a ha
  exact h2 a ha _ (by rw [drop_cons (0, 0) hj]; exact List.mem_cons_self ..)
theorem toAvail_l12 {s a : Nat} {xs : Pol} {W : Int64} {p : Nat → Bool} (hn : 40 ≤ n) (hZ : PZ Z s) (hZa : PZ Z a) (hd : a + 3 ≤ s ∨ s + 3 ≤ a) (hs : PSo xs) (hW : isMask W p) : ∀ (d j fu : Nat) (g : Mem), d = xs.length - j → j ≤ xs.length → d < fu → PIs g a xs → PIs g s (fav p (xs.take j)) → ∃ g', f_X5_setToAvailable_l12 n Z s fu a W (nI j) g = some ((), g') ∧ PIs g' s (fav p xs) ∧ Fr s (s + 3) g g' := by
  intro d
  induction d with
  | zero =>
    intro j fu g h1 h2 h3 h4 h5
    obtain ⟨fu, rfl⟩ : ∃ q, fu = q + 1 := ⟨fu - 1, by omega⟩
    have h32 := h4.2.1
    have hj : j = xs.length := by omega
    subst hj
    rw [List.take_length] at h5
    refine ⟨g, ?_, h5, Fr.rfl⟩
    unfold f_X5_setToAvailable_l12
    rw [p_size hZa h4, bnd_s, if_pos ((nle (by omega) (by omega)).mpr (Nat.le_refl _))]
  | succ d ih =>
    intro j fu g h1 h2 h3 h4 h5
    obtain ⟨fu, rfl⟩ : ∃ q, fu = q + 1 := ⟨fu - 1, by omega⟩
    have h32 := h4.2.1
    have hj : j < xs.length := by omega
    unfold f_X5_setToAvailable_l12
    rw [p_size hZa h4, bnd_s, if_neg (ge_n (by omega) hj), p_mono hZa h4 hj, bnd_s]
    by_cases q : avl p (xs.getD j (0, 0)).1 = true
    · rw [if_pos ((lg_cmp_eq _ _).mpr ((mask_avl hW).mpr q)), p_mono hZa h4 hj, bnd_s, p_fact hZa h4 hj, bnd_s]
      have hl : (fav p (xs.take j)).length < 32 := by
        have h6 : (fav p (xs.take j)).length ≤ (xs.take j).length := List.length_filter_le ..
        rw [List.length_take] at h6; omega
      have hadd := add_term (n := n) (m := (xs.getD j (0, 0)).1) (f := (xs.getD j (0, 0)).2) hn hZ h5
      have hE : pAdd (fav p (xs.take j)) (xs.getD j (0, 0)).1 (xs.getD j (0, 0)).2 = some (fav p (xs.take j) ++ [((xs.getD j (0, 0)).1, (xs.getD j (0, 0)).2)]) := pAdd_end (fun a ha => so_take hs hj a (List.mem_filter.mp ha).1) hl
      rw [hE] at hadd
      obtain ⟨g1, e1, e2, e3⟩ := hadd
      have e4 : fav p (xs.take j) ++ [((xs.getD j (0, 0)).1, (xs.getD j (0, 0)).2)] = fav p (xs.take (j + 1)) := by
        rw [take_succ' hj]
        unfold fav
        rw [List.filter_append]
        simp only [List.filter_cons, q, if_true, List.filter_nil]
      rw [e4] at e2
      obtain ⟨g2, f1, f2, f3⟩ := ih (j + 1) fu g1 (by omega) (by omega) (by omega) (h4.fr e3 (by omega)) e2
      refine ⟨g2, ?_, f2, e3.trans f3⟩
      rw [e1, bnd_s, nI_1]; exact f1
    · rw [if_neg (fun z => q ((mask_avl hW).mp ((lg_cmp_eq _ _).mp z))), nI_1]
      have e4 : fav p (xs.take j) = fav p (xs.take (j + 1)) := by
        rw [take_succ' hj]
        unfold fav
        rw [List.filter_append]
        simp only [List.filter_cons, Bool.eq_false_iff.mpr q, List.filter_nil]
        simp
      rw [e4] at h5
      exact ih (j + 1) fu g (by omega) (by omega) (by omega) h4 h5
theorem c_toAvail {s a M : Nat} {xs : Pol} {p : Nat → Bool} (hn : 40 ≤ n) (hZ : PZ Z s) (hZa : PZ Z a) (hd : a + 3 ≤ s ∨ s + 3 ≤ a) (hs : PSo xs) (hG : BM M p) (h : PIs g a xs) : ∃ g', f_X5_setToAvailable n Z s a (nI M) g = some ((), g') ∧ PIs g' s (fav p xs) ∧ Fr s (s + 3) g g' := by
  obtain ⟨W, w1, w2⟩ := c_maskOf (n := n) (Z := Z) (g := g) hn hG
  obtain ⟨k1, k2⟩ := p_clear_is (a := s) (g := g)
  have h32 := h.2.1
  obtain ⟨g', f1, f2, f3⟩ := toAvail_l12 (n := n) hn hZ hZa hd hs w2 xs.length 0 n _ (by omega) (by omega) (by omega) (h.fr k2 (by omega)) k1
  refine ⟨g', ?_, f2, k2.trans f3⟩
  unfold f_X5_setToAvailable
  rw [grd_t hZ.1, w1, bnd_s, p_clear hZ, bnd_s]; exact f1
theorem rowP_so {b : Nat → Nat} {v : Vl} {k : Nat} (hB : BOk b) (hv : Ans b v) (hk : k < v.2.length) : PSo (rowP v k) ∧ (rowP v k).length ≤ 32 := by
  have h := hv.good hB
  exact ⟨h.2.2.2.1.2 _ (getD_mem hk), h.2.2.2.2.2 _ (getD_mem hk)⟩
/-- showAvailable, of a row that there is -/
theorem c_show {len k q a : Nat} {b : Nat → Nat} {hb : List (Nat → Nat)} {T : Nat → Nat} {P : List Nat} {v : Vl} {x : Int32} (hn : 40 ≤ n) (hC : CZ Z c) (hP : PInv b hb len T P v) (hc : CInv g c b hb len T P v) (hk : k < v.2.length) (h1 : f_X0_answer n Z (c + 67) g = some (some q, g)) (h2 : f_X7_polynomialAt n Z q x g = some (some a, g)) (hZ : PZ Z a) (hI : PIs g a (rowP v k)) (ha1 : c + 69 ≤ a) (ha2 : a + 3 ≤ c + 1455) : ∃ g', f_X10_showAvailable n Z c x g = some (1, g') ∧ PIs g' (c + 1455) (fav (goneB b) (rowP v k)) ∧ Fr (c + 1455) (c + 1458) g g' := by
  obtain ⟨s1, s2⟩ := rowP_so hP.1.1 hP.2.2.2.1 hk
  obtain ⟨g', f1, f2, f3⟩ := c_toAvail (n := n) hn hC.sh hZ (by omega) s1 (bm_mk (goneB b)) hI
  refine ⟨g', ?_, f2, f3⟩
  unfold f_X10_showAvailable
  rw [grd_t hC.k, hC.f7, drf_s, h1, bnd_s, drf_s, h2, bnd_s, if_neg (by simp), hC.f8, drf_s, hC.f0, drf_s, s_gone hC.st, bnd_s, drf_s, hc.1.m7, f1, bnd_s]
theorem c_show_no {q : Nat} {x : Int32} (hC : CZ Z c) (h1 : f_X0_answer n Z (c + 67) g = some (some q, g)) (h2 : f_X7_polynomialAt n Z q x g = some (none, g)) : f_X10_showAvailable n Z c x g = some (0, g) := by
  unfold f_X10_showAvailable
  rw [grd_t hC.k, hC.f7, drf_s, h1, bnd_s, drf_s, h2, bnd_s, if_pos rfl]
end AVAIL

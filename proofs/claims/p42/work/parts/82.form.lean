/-! FORMS -/
def mF (f : Nat) (x : Int64) : Int64 := if f < 2 then x else flt x
def addF (f : Nat) (s : Pol) (a : Int64 × Int64) : Pol := pIns (mF f a.1) a.2 s
def frm (f : Nat) (xs : Pol) : Pol := xs.foldl (addF f) []
theorem pIns_le {m f : Int64} {xs : Pol} : (pIns m f xs).length ≤ xs.length + 1 := by
  by_cases q : phas m xs
  · rw [pIns_len.1 q]; omega
  · rw [pIns_len.2 q]; omega
theorem frm_len {f : Nat} : ∀ {l s : Pol}, (l.foldl (addF f) s).length ≤ s.length + l.length
  | [], s => Nat.le_refl _
  | a :: l, s => by
    have := frm_len (f := f) (l := l) (s := addF f s a)
    have h2 : (addF f s a).length ≤ s.length + 1 := pIns_le
    show (l.foldl (addF f) (addF f s a)).length ≤ s.length + (l.length + 1)
    omega
theorem frm_so {f : Nat} : ∀ {l s : Pol}, PSo s → PSo (l.foldl (addF f) s)
  | [], s, h => h
  | a :: l, s, h => frm_so (l := l) (s := addF f s a) h.ins
theorem frm_mons {f : Nat} {c : Int64} : ∀ {l s : Pol}, c ∈ mons (l.foldl (addF f) s) → c ∈ mons s ∨ ∃ a ∈ l, c = mF f a.1
  | [], s, h => Or.inl h
  | a :: l, s, h => by
    rcases frm_mons (l := l) (s := addF f s a) h with z | ⟨x, x1, x2⟩
    · rcases mons_ins.mp z with y | y
      · exact Or.inr ⟨a, List.mem_cons_self .., y⟩
      · exact Or.inl y
    · exact Or.inr ⟨x, List.mem_cons_of_mem _ x1, x2⟩
/-- exponents at most 1 -/
def FL (x : Int64) : Prop := ∀ t, t < 16 → ex x t ≤ 1
theorem flt_FL (x : Int64) : FL (flt x) := fun t ht => by rw [ex_flt ht]; split <;> omega
def FLs (zs : Pol) : Prop := ∀ a ∈ zs, FL a.1
theorem frm_FL {f : Nat} {xs : Pol} (hf : ¬ f < 2) : FLs (frm f xs) := fun a ha => by
  rcases frm_mons (List.mem_map_of_mem (f := Prod.fst) ha) with z | ⟨x, x1, x2⟩
  · cases z
  · rw [x2]; unfold mF; rw [if_neg hf]; exact flt_FL _
/-- the tags of y are among those of x -/
def inc (x y : Int64) : Bool := tsN x &&& tsN y == tsN y
theorem inc_iff {x y : Int64} : inc x y = true ↔ ∀ t, t < 16 → ex y t ≠ 0 → ex x t ≠ 0 := by
  unfold inc
  rw [beq_iff_eq]
  constructor
  · intro h t ht hy hx
    have := congrArg (fun z => z.testBit t) h
    simp only [Nat.testBit_and, tsN_bit ht] at this
    simp [sB, hx, hy] at this
  · intro h
    apply Nat.eq_of_testBit_eq
    intro t
    rw [Nat.testBit_and]
    by_cases ht : t < 16
    · rw [tsN_bit ht, tsN_bit ht]
      by_cases hy : ex y t = 0
      · simp [sB, hy]
      · simp [sB, hy, h t ht hy]
    · have h1 : tsN y < 2 ^ t := Nat.lt_of_lt_of_le (tsN_lt y) (Nat.pow_le_pow_right (n := 2) (i := 16) (by omega) (by omega))
      rw [Nat.testBit_lt_two_pow h1]; simp
theorem inc_fl {x y : Int64} (hx : FL x) (hy : FL y) : x &&& y = y ↔ inc x y = true := by
  rw [inc_iff]
  constructor
  · intro h t ht q z
    have := congrArg (fun w => ex w t) h
    simp only [ex_and] at this
    rw [z, Nat.zero_and] at this
    exact q this.symm
  · intro h
    apply ex_ext
    intro t ht
    rw [ex_and]
    have h1 := hx t ht
    have h2 := hy t ht
    by_cases q : ex y t = 0
    · rw [q, Nat.and_zero]
    · have := h t ht q
      rw [show ex x t = 1 by omega, show ex y t = 1 by omega]; rfl
def cont (zs : Pol) (i : Nat) : Bool := (List.range zs.length).any fun j => (j != i) && inc (zs.getD i (0, 0)).1 (zs.getD j (0, 0)).1
theorem cont_iff {zs : Pol} {i : Nat} : cont zs i = true ↔ ∃ j, j < zs.length ∧ j ≠ i ∧ inc (zs.getD i (0, 0)).1 (zs.getD j (0, 0)).1 = true := by
  unfold cont
  simp [List.any_eq_true]
def kpL (zs : Pol) : Nat → Pol
  | 0 => []
  | j + 1 => if cont zs j = true then kpL zs j else kpL zs j ++ [zs.getD j (0, 0)]
theorem kpL_len (zs : Pol) : ∀ j, (kpL zs j).length ≤ j
  | 0 => Nat.le_refl _
  | j + 1 => by
    have := kpL_len zs j
    unfold kpL
    split
    · omega
    · rw [List.length_append]; simp only [List.length_singleton]; omega
def oneL (zs : Pol) : Pol := zs.map fun a => (a.1, 1)
theorem oneL_len (zs : Pol) : (oneL zs).length = zs.length := List.length_map ..
theorem oneL_get {zs : Pol} {k : Nat} (hk : k < zs.length) : (oneL zs).getD k (0, 0) = ((zs.getD k (0, 0)).1, 1) := by
  unfold oneL; simp [List.getD, hk]
theorem cont_one {zs : Pol} {i : Nat} (hi : i < zs.length) : cont (oneL zs) i = cont zs i := by
  apply Bool.eq_iff_iff.mpr
  rw [cont_iff, cont_iff, oneL_len, oneL_get hi]
  constructor
  · rintro ⟨j, j1, j2, j3⟩; rw [oneL_get j1] at j3; exact ⟨j, j1, j2, j3⟩
  · rintro ⟨j, j1, j2, j3⟩; exact ⟨j, j1, j2, by rw [oneL_get j1]; exact j3⟩
theorem kpL_one {zs : Pol} : ∀ j, j ≤ zs.length → kpL (oneL zs) j = oneL (kpL zs j)
  | 0, _ => rfl
  | j + 1, h => by
    have ih := kpL_one (zs := zs) j (by omega)
    unfold kpL
    rw [cont_one (by omega), ih, oneL_get (by omega)]
    by_cases q : cont zs j = true
    · rw [if_pos q, if_pos q]
    · rw [if_neg q, if_neg q]; unfold oneL; rw [List.map_append]; rfl
def fin (f : Nat) (xs : Pol) : Pol := if f = 4 then kpL (oneL (frm f xs)) (frm f xs).length else if f = 0 ∨ f = 2 then frm f xs else oneL (frm f xs)
theorem fin_len {f : Nat} {xs : Pol} : (fin f xs).length ≤ xs.length := by
  have h1 : (frm f xs).length ≤ xs.length := by
    have := frm_len (f := f) (l := xs) (s := [])
    rw [List.length_nil, Nat.zero_add] at this; exact this
  unfold fin
  split
  · have := kpL_len (oneL (frm f xs)) (frm f xs).length; omega
  · split
    · exact h1
    · rw [oneL_len]; exact h1
/-- a bit of a mask of 32 -/
theorem bit32 {M t : Nat} (hM : M < 4294967296) (ht : t < 32) : (nI M >>> (nI t &&& 31)) &&& 1 = nI (M / 2 ^ t % 2) := by
  rw [pk_and _ 1 (by decide)]
  have hS : ((nI t &&& 31).toBitVec.smod 32).toNat = t := sh_n ht
  have e : (nI M >>> (nI t &&& 31)).toBitVec.toNat % 2 ^ 1 = M / 2 ^ t % 2 := by
    apply Nat.eq_of_testBit_eq
    intro i
    rw [Nat.testBit_mod_two_pow, show (M / 2 ^ t % 2) = M / 2 ^ t % 2 ^ 1 from rfl, Nat.testBit_mod_two_pow, Nat.testBit_div_two_pow]
    by_cases hi : i < 1
    · have h0 : i = 0 := by omega
      subst h0
      have : (nI M >>> (nI t &&& 31)).toBitVec.toNat.testBit 0 = M.testBit (0 + t) := by
        show ((nI M).toBitVec.sshiftRight ((nI t &&& 31).toBitVec.smod 32).toNat).getLsbD 0 = _
        rw [hS, BitVec.getLsbD_sshiftRight, if_pos (by omega)]
        show (!decide (32 ≤ 0) && ((nI M).toBitVec.toNat).testBit (t + 0)) = _
        rw [pk_tn hM, Nat.add_comm t 0]; simp
      rw [this]
    · simp [hi]
  rw [e]
theorem two32 {t : Nat} (ht : t < 32) : 2 ^ t < 4294967296 := by
  have h : 2 ^ t < 2 ^ 32 := Nat.pow_lt_pow_right (by omega) ht
  omega
theorem shl32 {t : Nat} (ht : t < 32) : (1 : Int32) <<< (nI t &&& 31) = nI (2 ^ t) := by
  have h := shl_n (a := 1) (k := t) (by have := two32 ht; omega) ht
  rw [Nat.one_mul] at h
  exact h
theorem mk32 {p : Nat → Bool} {k : Nat} (hk : k ≤ 32) : mk p k < 4294967296 := by
  have h1 := mk_lt p k
  have h2 : 2 ^ k ≤ 2 ^ 32 := Nat.pow_le_pow_right (by omega) hk
  omega
section FORM
variable {n : Nat} {Z : Zt} {g : Mem}
theorem c_cont9 {s i : Nat} {zs : Pol} (hZ : PZ Z s) (h : PIs g s zs) (hF : FLs zs) (hi : i < zs.length) : ∀ (d j fu : Nat), d = zs.length - j → j ≤ zs.length → d < fu → (∀ q, q < j → q ≠ i → inc (zs.getD i (0, 0)).1 (zs.getD q (0, 0)).1 ≠ true) → f_X5_containsAnother_l9 n Z s fu (nI i) (zs.getD i (0, 0)).1 (nI j) g = some (if cont zs i = true then 1 else 0, g) := by
  have h32 := h.2.1
  intro d
  induction d with
  | zero =>
    intro j fu h1 h2 h3 h4
    obtain ⟨fu, rfl⟩ : ∃ q, fu = q + 1 := ⟨fu - 1, by omega⟩
    have hj : j = zs.length := by omega
    subst hj
    unfold f_X5_containsAnother_l9
    rw [h.1, if_pos ((nle (by omega) (by omega)).mpr (Nat.le_refl _)), if_neg (fun z => by obtain ⟨q, q1, q2, q3⟩ := cont_iff.mp z; exact h4 q q1 q2 q3)]
  | succ d ih =>
    intro j fu h1 h2 h3 h4
    obtain ⟨fu, rfl⟩ : ∃ q, fu = q + 1 := ⟨fu - 1, by omega⟩
    have hj : j < zs.length := by omega
    unfold f_X5_containsAnother_l9
    rw [h.1, if_neg (ge_n (by omega) hj), p_mono hZ h hj, bnd_s, nI_1]
    by_cases hji : j = i
    · rw [if_pos (by rw [hji])]
      exact ih (j + 1) fu (by omega) (by omega) (by omega) fun q q1 q2 => by
        by_cases w : q = j
        · exact absurd (w.trans hji) q2
        · exact h4 q (by omega) q2
    · rw [if_neg (neI (by omega) (by omega) hji)]
      have hfl := inc_fl (hF _ (getD_mem (d := (0, 0)) hi)) (hF _ (getD_mem (d := (0, 0)) hj))
      by_cases q : inc (zs.getD i (0, 0)).1 (zs.getD j (0, 0)).1 = true
      · rw [if_pos ((lg_cmp_eq _ _).mpr (hfl.mpr q)), if_pos (cont_iff.mpr ⟨j, hj, hji, q⟩)]
      · rw [if_neg (fun z => q (hfl.mp ((lg_cmp_eq _ _).mp z)))]
        exact ih (j + 1) fu (by omega) (by omega) (by omega) fun q' q1 q2 => by
          by_cases w : q' = j
          · rw [w]; exact q
          · exact h4 q' (by omega) q2
theorem c_cont {s i : Nat} {zs : Pol} (hn : 40 ≤ n) (hZ : PZ Z s) (h : PIs g s zs) (hF : FLs zs) (hi : i < zs.length) : f_X5_containsAnother n Z s (nI i) g = some (if cont zs i = true then 1 else 0, g) := by
  have h32 := h.2.1
  unfold f_X5_containsAnother
  rw [grd_t hZ.1, p_mono hZ h hi, bnd_s]
  exact c_cont9 hZ h hF hi _ 0 n rfl (Nat.zero_le _) (by omega) fun q hq => absurd hq (Nat.not_lt_zero _)
/-- compaction under way -/
def Kpg (g : Mem) (s : Nat) (zs : Pol) (j : Nat) : Prop := gI g s 2 = nI zs.length ∧ (∀ i, i < (kpL zs j).length → gJ g (s + 1) i = ((kpL zs j).getD i (0, 0)).1 ∧ gJ g (s + 2) i = ((kpL zs j).getD i (0, 0)).2) ∧ ∀ i, j ≤ i → i < zs.length → gJ g (s + 1) i = (zs.getD i (0, 0)).1 ∧ gJ g (s + 2) i = (zs.getD i (0, 0)).2
theorem c_drop36 {s : Nat} {zs : Pol} (hZ : PZ Z s) (hl : zs.length ≤ 32) : ∀ (d j fu : Nat) (g : Mem), d = zs.length - j → j ≤ zs.length → d < fu → Kpg g s zs j → ∃ g', f_X5_dropContaining_l36 n Z s fu (nI (mk (cont zs) zs.length)) (nI (kpL zs j).length) (nI j) g = some ((), g') ∧ PIs g' s (kpL zs zs.length) ∧ Fr s (s + 3) g g' := by
  obtain ⟨z1, z2, z3, z4, z5, z6, z7⟩ := hZ
  intro d
  induction d with
  | zero =>
    intro j fu g h1 h2 h3 h4
    obtain ⟨fu, rfl⟩ : ∃ q, fu = q + 1 := ⟨fu - 1, by omega⟩
    have hj : j = zs.length := by omega
    subst hj
    have hkl := kpL_len zs zs.length
    refine ⟨sI g s 2 (nI (kpL zs zs.length).length), ?_, ⟨by rw [gI_sI, if_pos ⟨rfl, rfl⟩], by omega, fun i hi => by rw [Nat.zero_add]; exact h4.2.1 i hi⟩, Fr.rfl.sI (by omega) (by omega)⟩
    unfold f_X5_dropContaining_l36
    rw [h4.1, if_pos ((nle (by omega) (by omega)).mpr (Nat.le_refl _))]
  | succ d ih =>
    intro j fu g h1 h2 h3 h4
    obtain ⟨fu, rfl⟩ : ∃ q, fu = q + 1 := ⟨fu - 1, by omega⟩
    have hj : j < zs.length := by omega
    have hkl := kpL_len zs j
    have hbit : mk (cont zs) zs.length / 2 ^ j % 2 = if cont zs j = true then 1 else 0 := by
      have h5 := mk_bit (cont zs) j zs.length
      rw [bit_tb] at h5
      simp only [hj, decide_true, Bool.true_and] at h5
      by_cases q : cont zs j = true
      · rw [q, decide_eq_true_eq] at h5; rw [if_pos q]; exact h5
      · rw [Bool.eq_false_iff.mpr q, decide_eq_false_iff_not] at h5; rw [if_neg q]; omega
    unfold f_X5_dropContaining_l36
    rw [h4.1, if_neg (ge_n (by omega) hj), if_neg (show ¬ (32 : Int32) ≤ nI j from ge_n (N := 32) (by omega) (by omega)), bit32 (mk32 hl) (by omega), hbit]
    by_cases q : cont zs j = true
    · have e : kpL zs (j + 1) = kpL zs j := by rw [kpL, if_pos q]
      rw [if_pos q, if_neg (show ¬ nI 1 = (0 : Int32) by decide), nI_1, ← e]
      exact ih (j + 1) fu g (by omega) (by omega) (by omega) ⟨h4.1, by rw [e]; exact h4.2.1, fun i i1 i2 => h4.2.2 i (by omega) i2⟩
    · have e : kpL zs (j + 1) = kpL zs j ++ [zs.getD j (0, 0)] := by rw [kpL, if_neg q]
      have el : (kpL zs (j + 1)).length = (kpL zs j).length + 1 := by rw [e, List.length_append]; rfl
      obtain ⟨c1, c2⟩ := h4.2.2 j (Nat.le_refl _) hj
      rw [if_neg q, if_pos (show nI 0 = (0 : Int32) from rfl), if_neg (nI_nlt (by omega) (by omega)), z2, drf_s, drf_s, z3]
      simp (disch := omega) only [z4, z5, z6, z7, grd_t, grd_true, inr_eq, clamp, drf_s, nI_1]
      rw [c1, gJ_sJ, if_neg (by omega), c2, ← el]
      have hF : Fr s (s + 3) g (sJ (sJ g (s + 1) (kpL zs j).length (zs.getD j (0, 0)).1) (s + 2) (kpL zs j).length (zs.getD j (0, 0)).2) := (Fr.rfl.sJ (by omega) (by omega)).sJ (by omega) (by omega)
      have hK : Kpg (sJ (sJ g (s + 1) (kpL zs j).length (zs.getD j (0, 0)).1) (s + 2) (kpL zs j).length (zs.getD j (0, 0)).2) s zs (j + 1) := by
        refine ⟨h4.1, fun i hi => ?_, fun i i1 i2 => ?_⟩
        · rw [el] at hi
          by_cases w : i = (kpL zs j).length
          · have eg : (kpL zs (j + 1)).getD i (0, 0) = zs.getD j (0, 0) := by rw [e, w]; exact getD_append_right'
            rw [eg, gJ_sJ, gJ_sJ, gJ_sJ, gJ_sJ, if_neg (by omega), if_pos ⟨rfl, w⟩, if_pos ⟨rfl, w⟩]
            exact ⟨rfl, rfl⟩
          · have eg : (kpL zs (j + 1)).getD i (0, 0) = (kpL zs j).getD i (0, 0) := by rw [e]; exact getD_append_left' (by omega)
            rw [eg, gJ_sJ, gJ_sJ, gJ_sJ, gJ_sJ, if_neg (by omega), if_neg (by omega), if_neg (by omega), if_neg (by omega)]
            exact h4.2.1 i (by omega)
        · rw [gJ_sJ, gJ_sJ, gJ_sJ, gJ_sJ, if_neg (by omega), if_neg (by omega), if_neg (by omega), if_neg (by omega)]
          exact h4.2.2 i (by omega) i2
      obtain ⟨g', f1, f2, f3⟩ := ih (j + 1) fu _ (by omega) (by omega) (by omega) hK
      exact ⟨g', f1, f2, hF.trans f3⟩
theorem c_drop4 {s : Nat} {zs : Pol} (hn : 40 ≤ n) (hZ : PZ Z s) (h : PIs g s zs) (hF : FLs zs) : ∀ (d j fu : Nat), d = zs.length - j → j ≤ zs.length → d < fu → f_X5_dropContaining_l4 n Z s fu (nI (mk (cont zs) j)) (nI j) g = f_X5_dropContaining_l36 n Z s n (nI (mk (cont zs) zs.length)) 0 0 g := by
  have h32 := h.2.1
  intro d
  induction d with
  | zero =>
    intro j fu h1 h2 h3
    obtain ⟨fu, rfl⟩ : ∃ q, fu = q + 1 := ⟨fu - 1, by omega⟩
    have hj : j = zs.length := by omega
    subst hj
    rw [f_X5_dropContaining_l4, h.1, if_pos ((nle (by omega) (by omega)).mpr (Nat.le_refl _))]
  | succ d ih =>
    intro j fu h1 h2 h3
    obtain ⟨fu, rfl⟩ : ∃ q, fu = q + 1 := ⟨fu - 1, by omega⟩
    have hj : j < zs.length := by omega
    have IH := ih (j + 1) fu (by omega) (by omega) (by omega)
    rw [f_X5_dropContaining_l4, h.1, if_neg (ge_n (by omega) hj), c_cont hn hZ h hF hj, bnd_s, nI_1]
    by_cases q : cont zs j = true
    · have e : mk (cont zs) (j + 1) = mk (cont zs) j ||| 2 ^ j := by rw [mk, if_pos q]
      rw [e] at IH
      rw [if_pos q, if_neg i10, shl32 (by omega), or_n (mk32 (by omega)) (two32 (by omega))]
      exact IH
    · have e : mk (cont zs) (j + 1) = mk (cont zs) j := by rw [mk, if_neg q, Nat.or_zero]
      rw [e] at IH
      rw [if_neg q, if_pos rfl]
      exact IH
theorem c_drop {s : Nat} {zs : Pol} (hn : 40 ≤ n) (hZ : PZ Z s) (h : PIs g s zs) (hF : FLs zs) : ∃ g', f_X5_dropContaining n Z s g = some ((), g') ∧ PIs g' s (kpL zs zs.length) ∧ Fr s (s + 3) g g' := by
  have h32 := h.2.1
  obtain ⟨g', a1, a2, a3⟩ := c_drop36 (n := n) hZ h32 zs.length 0 n g (by omega) (by omega) (by omega) ⟨h.1, fun i hi => absurd hi (Nat.not_lt_zero _), fun i _ hi => by have := h.2.2 i hi; rw [Nat.zero_add] at this; exact this⟩
  refine ⟨g', ?_, a2, a3⟩
  unfold f_X5_dropContaining
  rw [grd_t hZ.1]
  have := c_drop4 (n := n) hn hZ h hF zs.length 0 n (by omega) (by omega) (by omega)
  exact this.trans a1
theorem c_ones2 {s : Nat} {zs : Pol} (hZ : PZ Z s) (hl : zs.length ≤ 32) : ∀ (d j fu : Nat) (g : Mem), d = zs.length - j → j ≤ zs.length → d < fu → gI g s 2 = nI zs.length → (∀ i, i < zs.length → gJ g (s + 1) i = (zs.getD i (0, 0)).1 ∧ gJ g (s + 2) i = if i < j then 1 else (zs.getD i (0, 0)).2) → ∃ g', f_X5_setFactorsToOne_l2 n Z s fu (nI j) g = some ((), g') ∧ PIs g' s (oneL zs) ∧ Fr s (s + 3) g g' := by
  obtain ⟨z1, z2, z3, z4, z5, z6, z7⟩ := hZ
  intro d
  induction d with
  | zero =>
    intro j fu g h1 h2 h3 h4 h5
    obtain ⟨fu, rfl⟩ : ∃ q, fu = q + 1 := ⟨fu - 1, by omega⟩
    have hj : j = zs.length := by omega
    subst hj
    refine ⟨g, ?_, ⟨by rw [oneL_len]; exact h4, by rw [oneL_len]; exact hl, fun i hi => ?_⟩, Fr.rfl⟩
    · unfold f_X5_setFactorsToOne_l2
      rw [h4, if_pos ((nle (by omega) (by omega)).mpr (Nat.le_refl _))]
    · rw [oneL_len] at hi
      obtain ⟨c1, c2⟩ := h5 i hi
      rw [if_pos hi] at c2
      rw [Nat.zero_add, oneL_get hi]; exact ⟨c1, c2⟩
  | succ d ih =>
    intro j fu g h1 h2 h3 h4 h5
    obtain ⟨fu, rfl⟩ : ∃ q, fu = q + 1 := ⟨fu - 1, by omega⟩
    have hj : j < zs.length := by omega
    unfold f_X5_setFactorsToOne_l2
    rw [h4, if_neg (ge_n (by omega) hj), if_neg (show ¬ (32 : Int32) ≤ nI j from ge_n (N := 32) (by omega) (by omega)), z3, drf_s]
    simp (disch := omega) only [z5, z7, grd_t, grd_true, inr_eq, clamp, nI_1]
    have hF : Fr s (s + 3) g (sJ g (s + 2) j 1) := Fr.rfl.sJ (by omega) (by omega)
    obtain ⟨g', f1, f2, f3⟩ := ih (j + 1) fu (sJ g (s + 2) j 1) (by omega) (by omega) (by omega) h4 fun i hi => by
      obtain ⟨c1, c2⟩ := h5 i hi
      rw [gJ_sJ, gJ_sJ, if_neg (by omega)]
      refine ⟨c1, ?_⟩
      by_cases w : i = j
      · rw [if_pos ⟨rfl, w⟩, if_pos (by omega)]
      · rw [if_neg (by omega), c2]
        by_cases y : i < j
        · rw [if_pos y, if_pos (by omega)]
        · rw [if_neg y, if_neg (by omega)]
    exact ⟨g', f1, f2, hF.trans f3⟩
theorem c_ones {s : Nat} {zs : Pol} (hn : 40 ≤ n) (hZ : PZ Z s) (h : PIs g s zs) : ∃ g', f_X5_setFactorsToOne n Z s g = some ((), g') ∧ PIs g' s (oneL zs) ∧ Fr s (s + 3) g g' := by
  have h32 := h.2.1
  obtain ⟨g', a1, a2, a3⟩ := c_ones2 (n := n) hZ h32 zs.length 0 n g (by omega) (by omega) (by omega) h.1 (fun i hi => by have := h.2.2 i hi; rw [Nat.zero_add] at this; rw [if_neg (by omega)]; exact this)
  refine ⟨g', ?_, a2, a3⟩
  unfold f_X5_setFactorsToOne
  rw [grd_t hZ.1]; exact a1
theorem c_form6 {s a f : Nat} {xs : Pol} (hn : 40 ≤ n) (hZ : PZ Z s) (hZa : PZ Z a) (hd : a + 3 ≤ s ∨ s + 3 ≤ a) (hf : f < 5) : ∀ (d j fu : Nat) (g : Mem) (ys : Pol), d = xs.length - j → j ≤ xs.length → d < fu → PIs g a xs → PIs g s ys → ys.length ≤ j → ∃ g', f_X5_setToForm_l6 n Z s fu a (nI f) (nI j) g = (if nI f = (4 : Int32) then (bnd (f_X5_dropContaining n Z s g') (fun r9 g10 => f_X5_setToForm_l61 n Z s (nI f) g10)) else (f_X5_setToForm_l61 n Z s (nI f) g')) ∧ PIs g' s ((xs.drop j).foldl (addF f) ys) ∧ Fr s (s + 3) g g' := by
  intro d
  induction d with
  | zero =>
    intro j fu g ys h1 h2 h3 h4 h5 h6
    obtain ⟨fu, rfl⟩ : ∃ q, fu = q + 1 := ⟨fu - 1, by omega⟩
    have h32 := h4.2.1
    have hj : j = xs.length := by omega
    subst hj
    refine ⟨g, ?_, by rw [fold_end]; exact h5, Fr.rfl⟩
    rw [f_X5_setToForm_l6, p_size hZa h4, bnd_s, if_pos ((nle (by omega) (by omega)).mpr (Nat.le_refl _))]
  | succ d ih =>
    intro j fu g ys h1 h2 h3 h4 h5 h6
    obtain ⟨fu, rfl⟩ : ∃ q, fu = q + 1 := ⟨fu - 1, by omega⟩
    have h32 := h4.2.1
    have hj : j < xs.length := by omega
    have step : ∀ x : Int64, x = mF f (xs.getD j (0, 0)).1 → ∃ g', f_X5_setToForm_l37 n Z (fun y0 y1 y2 y => f_X5_setToForm_l6 n Z s fu y0 y1 y2 y) s a (nI f) (nI j) x s g = (if nI f = (4 : Int32) then (bnd (f_X5_dropContaining n Z s g') (fun r9 g10 => f_X5_setToForm_l61 n Z s (nI f) g10)) else (f_X5_setToForm_l61 n Z s (nI f) g')) ∧ PIs g' s ((xs.drop j).foldl (addF f) ys) ∧ Fr s (s + 3) g g' := fun x hx => by
      have hadd := add_term (n := n) (m := x) (f := (xs.getD j (0, 0)).2) hn hZ h5
      have hE : pAdd ys x (xs.getD j (0, 0)).2 = some (addF f ys (xs.getD j (0, 0))) := by
        rw [pAdd_eq, if_pos (Or.inr (by omega)), hx]; rfl
      rw [hE] at hadd
      obtain ⟨g1, e1, e2, e3⟩ := hadd
      have hle : (addF f ys (xs.getD j (0, 0))).length ≤ ys.length + 1 := pIns_le
      obtain ⟨g2, f1, f2, f3⟩ := ih (j + 1) fu g1 _ (by omega) (by omega) (by omega) (h4.fr e3 (by omega)) e2 (by omega)
      refine ⟨g2, ?_, by rw [fold_drop hj]; exact f2, e3.trans f3⟩
      unfold f_X5_setToForm_l37
      rw [p_fact hZa h4 hj, bnd_s, e1, bnd_s, nI_1]
      exact f1
    rw [f_X5_setToForm_l6, p_size hZa h4, bnd_s, if_neg (ge_n (by omega) hj), p_mono hZa h4 hj, bnd_s]
    by_cases q : f < 2
    · rw [if_neg (show ¬ (2 : Int32) ≤ nI f from ge_n (N := 2) (by omega) q)]
      exact step _ (by unfold mF; rw [if_pos q])
    · rw [if_pos (show (2 : Int32) ≤ nI f from (nle (a := 2) (by omega) (by omega)).mpr (by omega)), c_flat, bnd_s]
      exact step _ (by unfold mF; rw [if_neg q])
theorem c_form {s a f : Nat} {xs : Pol} (hn : 40 ≤ n) (hZ : PZ Z s) (hZa : PZ Z a) (hd : a + 3 ≤ s ∨ s + 3 ≤ a) (hf : f < 5) (h : PIs g a xs) : ∃ g', f_X5_setToForm n Z s a (nI f) g = some ((), g') ∧ PIs g' s (fin f xs) ∧ Fr s (s + 3) g g' := by
  have h32 := h.2.1
  obtain ⟨k1, k2⟩ := p_clear_is (a := s) (g := g)
  obtain ⟨g1, a1, a2, a3⟩ := c_form6 (n := n) hn hZ hZa hd hf xs.length 0 n _ [] (by omega) (by omega) (by omega) (h.fr k2 (by omega)) k1 (Nat.le_refl _)
  have E : f_X5_setToForm n Z s a (nI f) g = (if nI f = (4 : Int32) then (bnd (f_X5_dropContaining n Z s g1) (fun r9 g10 => f_X5_setToForm_l61 n Z s (nI f) g10)) else (f_X5_setToForm_l61 n Z s (nI f) g1)) := by
    unfold f_X5_setToForm
    rw [grd_t hZ.1, p_clear hZ, bnd_s]; exact a1
  have a2 : PIs g1 s (frm f xs) := a2
  rw [E]
  by_cases q4 : f = 4
  · subst q4
    obtain ⟨g2, b1, b2, b3⟩ := c_drop (n := n) hn hZ a2 (frm_FL (by omega))
    obtain ⟨g3, c1, c2, c3⟩ := c_ones (n := n) hn hZ b2
    refine ⟨g3, ?_, ?_, (k2.trans a3).trans (b3.trans c3)⟩
    · rw [if_pos (show nI 4 = (4 : Int32) from rfl), b1, bnd_s]
      unfold f_X5_setToForm_l61
      rw [if_neg (show ¬ nI 4 = (0 : Int32) by decide), if_neg (show ¬ nI 4 = (2 : Int32) by decide), c1, bnd_s]
    · unfold fin
      rw [if_pos rfl, kpL_one _ (Nat.le_refl _)]; exact c2
  · rw [if_neg (show ¬ nI f = (4 : Int32) from neI (b := 4) (by omega) (by omega) q4)]
    unfold f_X5_setToForm_l61
    by_cases q02 : f = 0 ∨ f = 2
    · refine ⟨g1, ?_, by unfold fin; rw [if_neg q4, if_pos q02]; exact a2, k2.trans a3⟩
      rcases q02 with q | q <;> subst q
      · rw [if_pos (show nI 0 = (0 : Int32) from rfl)]
      · rw [if_neg (show ¬ nI 2 = (0 : Int32) by decide), if_pos (show nI 2 = (2 : Int32) from rfl)]
    · obtain ⟨g3, c1, c2, c3⟩ := c_ones (n := n) hn hZ a2
      refine ⟨g3, ?_, by unfold fin; rw [if_neg q4, if_neg q02]; exact c2, (k2.trans a3).trans c3⟩
      rw [if_neg (show ¬ nI f = (0 : Int32) from neI (b := 0) (by omega) (by omega) (by omega)), if_neg (show ¬ nI f = (2 : Int32) from neI (b := 2) (by omega) (by omega) (by omega)), c1, bnd_s]
end FORM

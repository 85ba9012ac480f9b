/-! WHAT IS PRINTED -/
def lgf : Nat → Nat → Nat
  | 0, _ => 0
  | f + 1, v => if v < 10 then 0 else lgf f (v / 10) + 1
theorem lgf_ok : ∀ f v, v < 10 ^ (f + 1) → v < 10 ^ (lgf f v + 1) ∧ (1 ≤ v → 10 ^ lgf f v ≤ v) ∧ lgf f v ≤ f
  | 0, v, h => ⟨h, fun h => by simpa [lgf] using h, Nat.le_refl _⟩
  | f + 1, v, h => by
    unfold lgf
    by_cases q : v < 10
    · rw [if_pos q]; exact ⟨by simpa using q, fun h => by simpa using h, Nat.zero_le _⟩
    · rw [if_neg q]
      have hd : v / 10 < 10 ^ (f + 1) := by rw [Nat.pow_succ] at h; omega
      obtain ⟨a1, a2, a3⟩ := lgf_ok f (v / 10) hd
      have a2 := a2 (by omega)
      refine ⟨?_, fun _ => ?_, by omega⟩
      · rw [Nat.pow_succ]; omega
      · rw [Nat.pow_succ]; omega
def lg10 (v : Nat) : Nat := lgf 16 v
theorem lg10_ok {v : Nat} (h : v < 10 ^ 17) : v < 10 ^ (lg10 v + 1) ∧ (1 ≤ v → 10 ^ lg10 v ≤ v) ∧ lg10 v ≤ 16 := lgf_ok 16 v h
def digL (v : Nat) : Nat → List Nat
  | 0 => [48 + v % 10]
  | e + 1 => (48 + v / 10 ^ (e + 1) % 10) :: digL v e
theorem digL_len (v : Nat) : ∀ e, (digL v e).length = e + 1
  | 0 => rfl
  | e + 1 => by show (digL v e).length + 1 = _; rw [digL_len v e]
def numP (v : Nat) : List Nat := digL v (lg10 v)
def tagP (x : Int64) (t : Nat) : List Nat := (if ex x t = 0 then [] else [97 + t]) ++ if ex x t ≤ 1 then [] else 94 :: numP (ex x t)
def tagsR (x : Int64) : Nat → List Nat
  | 0 => []
  | d + 1 => tagP x (15 - d) ++ tagsR x d
def termP (a : Int64 × Int64) : List Nat := (if uN a.2 ≤ 1 then [] else numP (uN a.2)) ++ tagsR a.1 16
def polR (zs : Pol) : Nat → List Nat
  | 0 => []
  | d + 1 => (if zs.length - (d + 1) = 0 then [] else [43]) ++ termP (zs.getD (zs.length - (d + 1)) (0, 0)) ++ polR zs d
def polP (zs : Pol) : List Nat := polR zs zs.length
/-! how long it is -/
theorem tagP_len {x : Int64} {t : Nat} (h : ex x t ≤ 9) : 2 * (tagP x t).length ≤ 3 * ex x t := by
  unfold tagP
  by_cases q0 : ex x t = 0
  · rw [if_pos q0, if_pos (by omega)]; simp
  · rw [if_neg q0]
    by_cases q1 : ex x t ≤ 1
    · rw [if_pos q1]; simp only [List.append_nil, List.length_singleton]; omega
    · rw [if_neg q1, List.length_append]
      have : (numP (ex x t)).length = 1 := by
        unfold numP
        rw [digL_len]
        have : lg10 (ex x t) = 0 := by unfold lg10 lgf; rw [if_pos (by omega)]
        rw [this]
      simp only [List.length_singleton, List.length_cons, List.length_nil, this]; omega
theorem tagsR_len {x : Int64} (h : ∀ t, t < 16 → ex x t ≤ 9) : ∀ d, d ≤ 16 → 2 * (tagsR x d).length + 3 * sumE x (16 - d) ≤ 3 * sumE x 16
  | 0, _ => by simp [tagsR]
  | d + 1, hd => by
    have ih := tagsR_len h d (by omega)
    have ht := tagP_len (h (15 - d) (by omega))
    have e : sumE x (16 - d) = sumE x (16 - (d + 1)) + ex x (15 - d) := by
      rw [show 16 - d = (15 - d) + 1 by omega, show 16 - (d + 1) = 15 - d by omega]; rfl
    unfold tagsR
    rw [List.length_append]; omega
theorem termP_len {a : Int64 × Int64} (h1 : sumE a.1 16 ≤ 9) (h2 : uN a.2 < 10 ^ 15) : (termP a).length ≤ 28 := by
  have ht := tagsR_len (x := a.1) (fun t ht => by have := ex_le_sum a.1 16 ht; omega) 16 (Nat.le_refl _)
  have hn : (if uN a.2 ≤ 1 then [] else numP (uN a.2)).length ≤ 15 := by
    split
    · simp
    · unfold numP
      rw [digL_len]
      obtain ⟨l1, l2, l3⟩ := lg10_ok (v := uN a.2) (by omega)
      have l2 := l2 (by omega)
      have : lg10 (uN a.2) < 15 := Nat.lt_of_not_le fun z => by
        have : 10 ^ 15 ≤ 10 ^ lg10 (uN a.2) := Nat.pow_le_pow_right (by omega) z
        omega
      omega
  unfold termP
  rw [List.length_append]; omega
/-- terms that print briefly -/
def BrT (a : Int64 × Int64) : Prop := sumE a.1 16 ≤ 9 ∧ uN a.2 < 10 ^ 15
theorem polR_len {zs : Pol} (h : ∀ a ∈ zs, BrT a) : ∀ d, d ≤ zs.length → (polR zs d).length ≤ 29 * d
  | 0, _ => Nat.le_refl _
  | d + 1, hd => by
    have ih := polR_len h d (by omega)
    obtain ⟨b1, b2⟩ := h _ (getD_mem (d := (0, 0)) (show zs.length - (d + 1) < zs.length by omega))
    have ht := termP_len b1 b2
    unfold polR
    rw [List.length_append, List.length_append]
    have : (if zs.length - (d + 1) = 0 then ([] : List Nat) else [43]).length ≤ 1 := by split <;> simp
    omega
theorem sumE_flt (x : Int64) : ∀ k, k ≤ 16 → sumE (flt x) k ≤ sumE x k
  | 0, _ => Nat.le_refl _
  | k + 1, h => by
    have := sumE_flt x k (by omega)
    unfold sumE
    rw [ex_flt (by omega)]
    split <;> omega
theorem frm_w {f : Nat} : ∀ {l s : Pol}, wP s + wP l < 2 ^ 64 → CP1 s → CP1 l → wP (l.foldl (addF f) s) = wP s + wP l ∧ CP1 (l.foldl (addF f) s)
  | [], s, h, h1, h2 => ⟨by simp [wP], h1⟩
  | a :: l, s, h, h1, h2 => by
    have h : wP s + (uN a.2 + wP l) < 2 ^ 64 := h
    obtain ⟨i1, i2⟩ := wP_ins (m := mF f a.1) (f := a.2) (xs := s) (by omega) h1 (h2 a (List.mem_cons_self ..))
    obtain ⟨j1, j2⟩ := frm_w (f := f) (l := l) (s := addF f s a) (by unfold addF; omega) i2 (fun x hx => h2 x (List.mem_cons_of_mem _ hx))
    refine ⟨?_, j2⟩
    show wP (l.foldl (addF f) (addF f s a)) = wP s + (uN a.2 + wP l)
    rw [j1]; unfold addF; omega
theorem kpL_mem {zs : Pol} : ∀ j, j ≤ zs.length → ∀ a ∈ kpL zs j, a ∈ zs
  | 0, _, a, ha => absurd ha List.not_mem_nil
  | j + 1, hj, a, ha => by
    have ih := kpL_mem (zs := zs) j (by omega)
    unfold kpL at ha
    split at ha
    · exact ih a ha
    · rcases List.mem_append.mp ha with q | q
      · exact ih a q
      · rw [List.mem_singleton.mp q]; exact getD_mem (by omega)
/-- forms of an answer's polynomials print briefly -/
theorem fin_brief {b : Nat → Nat} {v : Vl} {k f : Nat} (hB : BOk b) (hv : Ans b v) (hk : k < v.2.length) : ∀ a ∈ fin f (rowP v k), BrT a := by
  obtain ⟨g1, g2, g3, -⟩ := hv.good hB
  have hm := getD_mem (d := ((0 : Nat), ([] : Pol))) hk
  have hw : wP (rowP v k) ≤ 16 ^ 12 := Nat.le_trans (wL_mem hm) g2
  obtain ⟨w1, w2⟩ := frm_w (f := f) (l := rowP v k) (s := []) (by show 0 + wP (rowP v k) < 2 ^ 64; omega) CP1.nil (g3 _ hm)
  have w1 : wP (frm f (rowP v k)) = 0 + wP (rowP v k) := w1
  have hf : ∀ a ∈ frm f (rowP v k), BrT a := fun a ha => by
    refine ⟨?_, by have := wP_mem ha; omega⟩
    rcases frm_mons (List.mem_map_of_mem (f := Prod.fst) ha) with z | ⟨x, x1, x2⟩
    · cases z
    · have h1 := (g1 _ hm x.1 (List.mem_map_of_mem x1)).1
      rw [x2]; unfold mF
      split
      · exact h1
      · have := sumE_flt x.1 16 (Nat.le_refl _); omega
  have ho : ∀ a ∈ oneL (frm f (rowP v k)), BrT a := fun a ha => by
    obtain ⟨x, x1, x2⟩ := List.mem_map.mp ha
    rw [← x2]
    exact ⟨(hf x x1).1, show uN (1 : Int64) < 10 ^ 15 by decide⟩
  unfold fin
  split
  · exact fun a ha => ho a (kpL_mem _ (by rw [oneL_len]; exact Nat.le_refl _) a ha)
  · split
    · exact hf
    · exact ho
theorem polP_len {b : Nat → Nat} {v : Vl} {k f : Nat} (hB : BOk b) (hv : Ans b v) (hk : k < v.2.length) : (polP (fin f (rowP v k))).length ≤ 1024 := by
  have h1 := polR_len (fin_brief (f := f) hB hv hk) _ (Nat.le_refl _)
  have h2 : (fin f (rowP v k)).length ≤ (rowP v k).length := fin_len
  have h3 := (rowP_so hB hv hk).2
  unfold polP; omega
theorem lN_uN {x : Int64} : x = lN (uN x) := by
  apply uN_inj
  show uN x = (Int64.ofNat (uN x)).toBitVec.toNat
  rw [show (Int64.ofNat (uN x)).toBitVec = BitVec.ofNat 64 (uN x) from rfl, BitVec.toNat_ofNat, Nat.mod_eq_of_lt (uN_lt x)]
/-! the class prints -/
def PaI (g : Mem) (l : Nat) (P : List Nat) : Prop := LIs g l P.length fun k => P.getD k 0
theorem pa_app {g : Mem} {l x : Nat} {P : List Nat} (h : LIs g l (P.length + 1) fun k => if k = P.length then x else P.getD k 0) : PaI g l (P ++ [x]) := by
  unfold PaI
  rw [List.length_append]
  refine LIs.cong h fun k hk => ?_
  have hk : k < P.length + 1 := hk
  by_cases q : k = P.length
  · rw [if_pos q, q, getD_append_right']
  · rw [if_neg q, getD_append_left' (by omega)]
section PRINT
variable {n : Nat} {Z : Zt}
theorem c_put {l x : Nat} {P : List Nat} {g : Mem} (hL : LZ Z l 1024) (h : PaI g l P) (hl : P.length < 1024) (hx : x < 65536) : ∃ g', f_X3_add n Z l (nI x) g = some (1, g') ∧ PaI g' l (P ++ [x]) ∧ Fr l (l + 2) g g' := by
  obtain ⟨g', a1, a2, a3⟩ := l_add (n := n) hL (by omega) h hl hx
  exact ⟨g', a1, pa_app a2, a3⟩
theorem c_num37 {l v : Nat} (hL : LZ Z l 1024) (hv : v < 10 ^ 17) : ∀ (e j fu : Nat) (P : List Nat) (g : Mem), e + 1 < fu → e + j < 18 → PaI g l P → P.length + (e + 1) ≤ 1024 → ∃ g', f_X3_addNumber_l37 n Z l fu (lN v) (lN (10 ^ e)) (nI j) g = some ((), g') ∧ PaI g' l (P ++ digL v e) ∧ Fr l (l + 2) g g' := by
  intro e
  have c0 : ∀ e, e < 18 → 10 ^ e < 2 ^ 63 := fun e he => by
    have : 10 ^ e ≤ 10 ^ 17 := Nat.pow_le_pow_right (by omega) (by omega)
    omega
  induction e with
  | zero =>
    intro j fu P g h1 h2 h3 h4
    obtain ⟨fu, rfl⟩ : ∃ q, fu = q + 1 := ⟨fu - 1, by omega⟩
    obtain ⟨fu, rfl⟩ : ∃ q, fu = q + 1 := ⟨fu - 1, by omega⟩
    obtain ⟨g1, a1, a2, a3⟩ := c_put (n := n) (x := 48 + v % 10) hL h3 (by omega) (by omega)
    refine ⟨g1, ?_, a2, a3⟩
    have hq : ((48 : Int64) + ((lN v / lN (10 ^ 0)) - (lN v / lN (10 ^ 0)) / (10 : Int64) * (10 : Int64))).toInt32 = nI (48 + v % 10) := by
      rw [pk_lDiv (by omega) (by decide) (by decide), show (10 : Int64) = lN 10 from rfl, pk_lRem (by rw [Nat.pow_zero, Nat.div_one]; omega) (by decide) (by decide), show (48 : Int64) = lN 48 from rfl, lN_add, lN_i, Nat.pow_zero, Nat.div_one]
    rw [f_X3_addNumber_l37, if_neg (show ¬ (19 : Int32) ≤ nI j from ge_n (N := 19) (by omega) (by omega)), if_neg (show ¬ lg_cmp (lN (10 ^ 0)) 0 ≤ 0 by decide), grd_t (show ¬ lN (10 ^ 0) = 0 by decide), hq, ch16 (by omega), a1, bnd_s]
    rw [show lN (10 ^ 0) / (10 : Int64) = lN 0 by decide, nI_1, f_X3_addNumber_l37, if_neg (show ¬ (19 : Int32) ≤ nI (j + 1) from ge_n (N := 19) (by omega) (by omega)), if_pos (show lg_cmp (lN 0) 0 ≤ 0 by decide)]
  | succ e ih =>
    intro j fu P g h1 h2 h3 h4
    obtain ⟨fu, rfl⟩ : ∃ q, fu = q + 1 := ⟨fu - 1, by omega⟩
    have hp : 0 < 10 ^ (e + 1) := Nat.pow_pos (by omega)
    have hle : v / 10 ^ (e + 1) ≤ v := Nat.div_le_self ..
    obtain ⟨g1, a1, a2, a3⟩ := c_put (n := n) (x := 48 + v / 10 ^ (e + 1) % 10) hL h3 (by omega) (by omega)
    have hq : ((48 : Int64) + ((lN v / lN (10 ^ (e + 1))) - (lN v / lN (10 ^ (e + 1))) / (10 : Int64) * (10 : Int64))).toInt32 = nI (48 + v / 10 ^ (e + 1) % 10) := by
      rw [pk_lDiv (by omega) hp (c0 _ (by omega)), show (10 : Int64) = lN 10 from rfl, pk_lRem (by omega) (by decide) (by decide), show (48 : Int64) = lN 48 from rfl, lN_add, lN_i]
    obtain ⟨g2, b1, b2, b3⟩ := ih (j + 1) fu (P ++ [48 + v / 10 ^ (e + 1) % 10]) g1 (by omega) (by omega) a2 (by rw [List.length_append]; simp only [List.length_singleton]; omega)
    refine ⟨g2, ?_, by rw [List.append_assoc] at b2; exact b2, a3.trans b3⟩
    have hne : ¬ lN (10 ^ (e + 1)) = 0 := fun z => by
      have := (pk_lEQ (b := 0) (c0 _ (by omega)) (by decide)).mp z; omega
    have hgt : ¬ lg_cmp (lN (10 ^ (e + 1))) 0 ≤ 0 := fun z => by
      rw [lg_cmp_le] at z
      have := (pk_lLE (b := 0) (c0 _ (by omega)) (by decide)).mp z; omega
    have hdv : lN (10 ^ (e + 1)) / (10 : Int64) = lN (10 ^ e) := by
      rw [show (10 : Int64) = lN 10 from rfl, pk_lDiv (c0 _ (by omega)) (by decide) (by decide), Nat.pow_succ, Nat.mul_div_cancel _ (by omega)]
    rw [f_X3_addNumber_l37, if_neg (show ¬ (19 : Int32) ≤ nI j from ge_n (N := 19) (by omega) (by omega)), if_neg hgt, grd_t hne, hq, ch16 (by omega), a1, bnd_s, hdv, nI_1]
    exact b1
theorem c_num5 {l v : Nat} {g : Mem} (hv : v < 10 ^ 17) (h1 : 1 ≤ v) : ∀ (d j fu : Nat), d = lg10 v - j → j ≤ lg10 v → d < fu → f_X3_addNumber_l5 n Z l fu (lN v) (lN (10 ^ j)) (nI (j + 1)) g = f_X3_addNumber_l37 n Z l n (lN v) (lN (10 ^ lg10 v)) 0 g := by
  obtain ⟨l1, l2, l3⟩ := lg10_ok hv
  have l2 := l2 h1
  have c0 : ∀ e, e < 18 → 10 ^ e < 2 ^ 63 := fun e he => by
    have : 10 ^ e ≤ 10 ^ 17 := Nat.pow_le_pow_right (by omega) (by omega)
    omega
  have hd10 : lN v / (10 : Int64) = lN (v / 10) := by rw [show (10 : Int64) = lN 10 from rfl, pk_lDiv (by omega) (by decide) (by decide)]
  intro d
  induction d with
  | zero =>
    intro j fu h2 h3 h4
    obtain ⟨fu, rfl⟩ : ∃ q, fu = q + 1 := ⟨fu - 1, by omega⟩
    have hj : j = lg10 v := by omega
    subst hj
    have hlt : lg_cmp (lN v / (10 : Int64)) (lN (10 ^ lg10 v)) < 0 := by
      rw [lg_cmp_lt, hd10, pk_lLT (by omega) (c0 _ (by omega))]
      rw [Nat.pow_succ] at l1; omega
    rw [f_X3_addNumber_l5, if_neg (show ¬ (19 : Int32) ≤ nI (lg10 v + 1) from ge_n (N := 19) (by omega) (by omega)), if_pos hlt]
  | succ d ih =>
    intro j fu h2 h3 h4
    obtain ⟨fu, rfl⟩ : ∃ q, fu = q + 1 := ⟨fu - 1, by omega⟩
    have hle : 10 ^ (j + 1) ≤ 10 ^ lg10 v := Nat.pow_le_pow_right (by omega) (by omega)
    have hnl : ¬ lg_cmp (lN v / (10 : Int64)) (lN (10 ^ j)) < 0 := fun z => by
      rw [lg_cmp_lt, hd10, pk_lLT (by omega) (c0 _ (by omega))] at z
      rw [Nat.pow_succ] at hle; omega
    rw [f_X3_addNumber_l5, if_neg (show ¬ (19 : Int32) ≤ nI (j + 1) from ge_n (N := 19) (by omega) (by omega)), if_neg hnl, show lN (10 ^ j) * (10 : Int64) = lN (10 ^ (j + 1)) from lN_mul (10 ^ j) 10, nI_1]
    exact ih (j + 1) fu (by omega) (by omega) (by omega)
theorem c_num {l v : Nat} {P : List Nat} {g : Mem} (hn : 100 ≤ n) (hL : LZ Z l 1024) (hv : v < 10 ^ 17) (h1 : 1 ≤ v) (h : PaI g l P) (hl : P.length + (numP v).length ≤ 1024) : ∃ g', f_X3_addNumber n Z l (lN v) g = some ((), g') ∧ PaI g' l (P ++ numP v) ∧ Fr l (l + 2) g g' := by
  obtain ⟨l1, l2, l3⟩ := lg10_ok hv
  unfold numP at hl ⊢
  rw [digL_len] at hl
  obtain ⟨g', a1, a2, a3⟩ := c_num37 (n := n) hL hv (lg10 v) 0 n P g (by omega) (by omega) h hl
  refine ⟨g', ?_, a2, a3⟩
  unfold f_X3_addNumber
  rw [grd_t hL.1]
  exact (c_num5 (n := n) hv h1 (lg10 v) 0 n (by omega) (by omega) (by omega)).trans a1
theorem c_tags {c : Nat} {x : Int64} (hn : 100 ≤ n) (hC : CZ Z c) : ∀ (d fu : Nat) (P : List Nat) (g : Mem), d ≤ 16 → d < fu → PaI g (c + 53) P → P.length + (tagsR x d).length ≤ 1024 → ∃ g', f_X10_printTerm_l17 n Z c fu x (nI (16 - d)) g = some ((), g') ∧ PaI g' (c + 53) (P ++ tagsR x d) ∧ Fr (c + 53) (c + 55) g g' := by
  intro d
  induction d with
  | zero =>
    intro fu P g h1 h2 h3 h4
    obtain ⟨fu, rfl⟩ : ∃ q, fu = q + 1 := ⟨fu - 1, by omega⟩
    refine ⟨g, ?_, by show PaI g (c + 53) (P ++ []); rw [List.append_nil]; exact h3, Fr.rfl⟩
    unfold f_X10_printTerm_l17
    rw [if_pos (show (16 : Int32) ≤ nI (16 - 0) by decide)]
  | succ d ih =>
    intro fu P g h1 h2 h3 h4
    obtain ⟨fu, rfl⟩ : ∃ q, fu = q + 1 := ⟨fu - 1, by omega⟩
    obtain ⟨t, ht⟩ : ∃ t, t = 15 - d := ⟨_, rfl⟩
    have e1 : 16 - (d + 1) = t := by omega
    have e2 : 16 - d = t + 1 := by omega
    have ht16 : t < 16 := by omega
    have he := ex_lt x t
    have h4 : P.length + (tagP x t ++ tagsR x d).length ≤ 1024 := by rw [ht]; exact h4
    rw [List.length_append] at h4
    have hgoal : tagsR x (d + 1) = tagP x t ++ tagsR x d := by rw [ht]; rfl
    rw [hgoal, e1]
    have key : ∃ g1, f_X10_printTerm_l17 n Z c (fu + 1) x (nI t) g = f_X10_printTerm_l17 n Z c fu x (nI (t + 1)) g1 ∧ PaI g1 (c + 53) (P ++ tagP x t) ∧ Fr (c + 53) (c + 55) g g1 := by
      rw [f_X10_printTerm_l17, if_neg (show ¬ (16 : Int32) ≤ nI t from ge_n (N := 16) (by omega) ht16), c_power ht16, bnd_s]
      have tail : ∀ (Q : List Nat) (gq : Mem), PaI gq (c + 53) Q → Q.length + (if ex x t ≤ 1 then [] else 94 :: numP (ex x t)).length ≤ 1024 → ∃ g1, f_X10_printTerm_l51 n Z (fun y0 y1 y => f_X10_printTerm_l17 n Z c fu y0 y1 y) c x (nI t) (nI (ex x t)) gq = f_X10_printTerm_l17 n Z c fu x (nI (t + 1)) g1 ∧ PaI g1 (c + 53) (Q ++ if ex x t ≤ 1 then [] else 94 :: numP (ex x t)) ∧ Fr (c + 53) (c + 55) gq g1 := fun Q gq hq hql => by
        unfold f_X10_printTerm_l51
        by_cases q1 : ex x t ≤ 1
        · rw [if_pos (show nI (ex x t) ≤ (1 : Int32) from (nle (b := 1) (by omega) (by omega)).mpr q1), if_pos q1, nI_1, List.append_nil]
          exact ⟨gq, rfl, hq, Fr.rfl⟩
        · rw [if_neg q1] at hql ⊢
          rw [List.length_cons] at hql
          obtain ⟨g1, a1, a2, a3⟩ := c_put (n := n) (x := 94) hC.pa hq (by omega) (by omega)
          obtain ⟨g2, b1, b2, b3⟩ := c_num (n := n) (v := ex x t) hn hC.pa (by omega) (by omega) a2 (by rw [List.length_append]; simp only [List.length_singleton]; omega)
          rw [if_neg (show ¬ nI (ex x t) ≤ (1 : Int32) from fun z => q1 ((nle (b := 1) (by omega) (by omega)).mp z)), hC.f4, drf_s, show f_X3_add n Z (c + 53) (94 : Int32) gq = _ from a1, bnd_s, drf_s, nI_l (by omega), b1, bnd_s, nI_1]
          rw [List.append_assoc] at b2
          exact ⟨g2, rfl, b2, a3.trans b3⟩
      unfold tagP at h4 ⊢
      rw [List.length_append] at h4
      by_cases q0 : ex x t = 0
      · rw [if_pos q0, List.nil_append, if_pos (show nI (ex x t) ≤ (0 : Int32) by rw [q0]; decide)]
        exact tail P g h3 (by rw [if_pos q0] at h4; simp only [List.length_nil] at h4; omega)
      · rw [if_neg q0] at h4 ⊢
        simp only [List.length_singleton] at h4
        obtain ⟨g1, a1, a2, a3⟩ := c_put (n := n) (x := 97 + t) hC.pa h3 (by omega) (by omega)
        obtain ⟨g2, b1, b2, b3⟩ := tail (P ++ [97 + t]) g1 a2 (by rw [List.length_append]; simp only [List.length_singleton]; omega)
        rw [if_neg (nI_nle (by omega) (by omega)), hC.f4, drf_s, show (97 : Int32) + nI t = nI (97 + t) from nI_add 97 t, ch16 (by omega), a1, bnd_s, b1]
        rw [List.append_assoc] at b2
        exact ⟨g2, rfl, b2, a3.trans b3⟩
    obtain ⟨g1, k1, k2, k3⟩ := key
    obtain ⟨g2, l1, l2, l3⟩ := ih fu (P ++ tagP x t) g1 (by omega) (by omega) k2 (by rw [List.length_append]; omega)
    refine ⟨g2, ?_, by rw [← List.append_assoc]; exact l2, k3.trans l3⟩
    rw [k1, ← e2]; exact l1
theorem c_term {c : Nat} {a : Int64 × Int64} {P : List Nat} {g : Mem} (hn : 100 ≤ n) (hC : CZ Z c) (hb : BrT a) (h : PaI g (c + 53) P) (hl : P.length + (termP a).length ≤ 1024) : ∃ g', f_X10_printTerm n Z c a.1 a.2 g = some ((), g') ∧ PaI g' (c + 53) (P ++ termP a) ∧ Fr (c + 53) (c + 55) g g' := by
  have hb2 := hb.2
  have hcmp : lg_cmp a.2 (1 : Int64) ≤ 0 ↔ uN a.2 ≤ 1 := by
    rw [lg_cmp_le]
    have : a.2 = lN (uN a.2) := lN_uN
    rw [this, show (1 : Int64) = lN 1 from rfl, pk_lLE (by omega) (by decide), ← this]
  unfold termP at hl ⊢
  rw [List.length_append] at hl
  unfold f_X10_printTerm
  rw [grd_t hC.k]
  by_cases q : uN a.2 ≤ 1
  · rw [if_pos q] at hl ⊢
    rw [if_pos (hcmp.mpr q), List.nil_append]
    simp only [List.length_nil] at hl
    exact c_tags (n := n) hn hC 16 n P g (Nat.le_refl _) (by omega) h (by omega)
  · rw [if_neg q] at hl ⊢
    rw [if_neg (fun z => q (hcmp.mp z)), hC.f4, drf_s]
    obtain ⟨g1, a1, a2, a3⟩ := c_num (n := n) (v := uN a.2) hn hC.pa (by omega) (by omega) h (by omega)
    rw [← lN_uN] at a1
    obtain ⟨g2, b1, b2, b3⟩ := c_tags (n := n) (x := a.1) hn hC 16 n (P ++ numP (uN a.2)) g1 (Nat.le_refl _) (by omega) a2 (by rw [List.length_append]; omega)
    rw [a1, bnd_s, show (0 : Int32) = nI (16 - 16) from rfl, b1]
    rw [List.append_assoc] at b2
    exact ⟨g2, rfl, b2, a3.trans b3⟩
theorem c_print47 {c : Nat} {zs : Pol} (hn : 100 ≤ n) (hC : CZ Z c) (hb : ∀ a ∈ zs, BrT a) : ∀ (d fu : Nat) (P : List Nat) (g : Mem), d ≤ zs.length → d < fu → PIs g (c + 1455) zs → PaI g (c + 53) P → P.length + (polR zs d).length ≤ 1024 → ∃ g', f_X10_print_l47 n Z c fu (nI (zs.length - d)) g = some (nI (P ++ polR zs d).length, g') ∧ PaI g' (c + 53) (P ++ polR zs d) ∧ Fr (c + 53) (c + 55) g g' := by
  intro d
  induction d with
  | zero =>
    intro fu P g h1 h2 h3 h4 h5
    obtain ⟨fu, rfl⟩ : ∃ q, fu = q + 1 := ⟨fu - 1, by omega⟩
    have h32 := h3.2.1
    have e : P ++ polR zs 0 = P := List.append_nil P
    rw [e]
    refine ⟨g, ?_, h4, Fr.rfl⟩
    unfold f_X10_print_l47
    rw [hC.f8, drf_s, p_size hC.sh h3, bnd_s, if_pos ((nle (by omega) (by omega)).mpr (by omega)), hC.f4, drf_s, l_len hC.pa, bnd_s, h4.1]
  | succ d ih =>
    intro fu P g h1 h2 h3 h4 h5
    obtain ⟨fu, rfl⟩ : ∃ q, fu = q + 1 := ⟨fu - 1, by omega⟩
    have h32 := h3.2.1
    obtain ⟨j, hj⟩ : ∃ j, j = zs.length - (d + 1) := ⟨_, rfl⟩
    have hj2 : j < zs.length := by omega
    have e2 : zs.length - d = j + 1 := by omega
    have hg : polR zs (d + 1) = (if j = 0 then [] else [43]) ++ termP (zs.getD j (0, 0)) ++ polR zs d := by rw [hj]; rfl
    rw [hg] at h5 ⊢
    rw [← hj]
    rw [List.length_append, List.length_append] at h5
    have hbr := hb _ (getD_mem (d := (0, 0)) hj2)
    have body : ∀ (Q : List Nat) (gq : Mem), PIs gq (c + 1455) zs → PaI gq (c + 53) Q → Q.length + (termP (zs.getD j (0, 0))).length + (polR zs d).length ≤ 1024 → ∃ g', f_X10_print_l74 n Z (fun y0 y => f_X10_print_l47 n Z c fu y0 y) c (nI j) gq = some (nI (Q ++ termP (zs.getD j (0, 0)) ++ polR zs d).length, g') ∧ PaI g' (c + 53) (Q ++ termP (zs.getD j (0, 0)) ++ polR zs d) ∧ Fr (c + 53) (c + 55) gq g' := fun Q gq q1 q2 q3 => by
      obtain ⟨g1, a1, a2, a3⟩ := c_term (n := n) hn hC hbr q2 (by omega)
      obtain ⟨g2, b1, b2, b3⟩ := ih fu (Q ++ termP (zs.getD j (0, 0))) g1 (by omega) (by omega) (q1.fr a3 (by omega)) a2 (by rw [List.length_append]; omega)
      refine ⟨g2, ?_, b2, a3.trans b3⟩
      unfold f_X10_print_l74
      rw [hC.f8, drf_s, p_mono hC.sh q1 hj2, bnd_s, drf_s, p_fact hC.sh q1 hj2, bnd_s, a1, bnd_s, nI_1, ← e2]
      exact b1
    unfold f_X10_print_l47
    rw [hC.f8, drf_s, p_size hC.sh h3, bnd_s, if_neg (ge_n (by omega) hj2)]
    by_cases q0 : j = 0
    · rw [if_pos q0, List.nil_append, if_pos (show nI j ≤ (0 : Int32) by rw [q0]; decide), ← List.append_assoc]
      exact body P g h3 h4 (by rw [if_pos q0] at h5; simp only [List.length_nil] at h5; omega)
    · rw [if_neg q0] at h5 ⊢
      simp only [List.length_singleton] at h5
      obtain ⟨g1, a1, a2, a3⟩ := c_put (n := n) (x := 43) hC.pa h4 (by omega) (by omega)
      obtain ⟨g2, b1, b2, b3⟩ := body (P ++ [43]) g1 (h3.fr a3 (by omega)) a2 (by rw [List.length_append]; simp only [List.length_singleton]; omega)
      rw [if_neg (nI_nle (by omega) (by omega)), hC.f4, drf_s, show f_X3_add n Z (c + 53) (43 : Int32) g = _ from a1, bnd_s, b1]
      have e3 : P ++ ([43] ++ termP (zs.getD j (0, 0)) ++ polR zs d) = P ++ [43] ++ termP (zs.getD j (0, 0)) ++ polR zs d := by simp only [List.append_assoc]
      rw [e3]
      exact ⟨g2, rfl, b2, a3.trans b3⟩
end PRINT

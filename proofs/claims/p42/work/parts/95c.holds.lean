/-! holds: what the answer, the forms and the base rows are to one another -/
section HOLDS
variable {n : Nat} {Z : Zt} {c : Nat} {b : Nat → Nat} {v : Vl}
theorem i1z : ¬ (1 : Int32) = 0 := by decide
/-- rows ascend: the columns of two rows -/
theorem hd_123 {κ : Nat → Int32 → Int32 → Int32 → Int32 → Int32 → Mem → Option (Int32 × Mem)} {x1 x2 : Int32} {r : Nat} (hC : CZ Z c) (h4 : v.1 ≤ 4) (hr : r + 1 < v.2.length) (h32 : v.2.length ≤ 32) (hK : (v.2.getD r (0, [])).1 < (v.2.getD (r + 1) (0, [])).1) (hκ : Rd c b v (fun g => κ c x1 x2 (nI v.1) 1 (nI (r + 1) + 1) g) 1) : ∀ (d j fu : Nat), d = v.1 - j → j ≤ v.1 → d < fu → (v.2.getD r (0, [])).1 / 10 ^ (v.1 - j) = (v.2.getD (r + 1) (0, [])).1 / 10 ^ (v.1 - j) → Rd c b v (fun g => f_L_holds_l123 n Z κ fu c x1 x2 (nI v.1) (nI (r + 1)) (nI j) g) 1 := by
  intro d
  induction d with
  | zero =>
    intro j fu hd hj hfu hq
    rw [show v.1 - j = 0 by omega, Nat.pow_zero, Nat.div_one, Nat.div_one] at hq
    omega
  | succ d ih =>
    intro j fu hd hj hfu hq
    obtain ⟨fu, rfl⟩ : ∃ q, fu = q + 1 := ⟨fu - 1, by omega⟩
    have hj' : j < v.1 := by omega
    obtain ⟨f1, f2⟩ := fst_dig (B := 10) (by omega) hj' hq hK
    have a1 := rd_answerValue (n := n) (b := b) hC hr hj' h4
    have a2 : Rd c b v (f_X10_answerValue n Z c (nI (r + 1) - (1 : Int32)) (nI j)) (nI (dg v.1 (v.2.getD r (0, [])).1 j)) := by
      rw [nI_pred]; exact rd_answerValue hC (by omega) hj' h4
    have d1 : dg v.1 (v.2.getD r (0, [])).1 j < 10 := Nat.mod_lt _ (by omega)
    have d2 : dg v.1 (v.2.getD (r + 1) (0, [])).1 j < 10 := Nat.mod_lt _ (by omega)
    have hno : ¬ nI v.1 ≤ nI j := ge_n (by omega) hj'
    refine Rd.eq (fun g => by rw [f_L_holds_l123]) ?_
    refine Rd.neg hno (a1.bnd (a2.bnd ?_))
    by_cases q : dg v.1 (v.2.getD r (0, [])).1 j = dg v.1 (v.2.getD (r + 1) (0, [])).1 j
    · refine Rd.pos (by rw [q]) ?_
      rw [nI_1]
      exact ih (j + 1) fu (by omega) (by omega) (by omega) (f1 q)
    · refine Rd.neg (fun z => q ((neq (by omega) (by omega)).mp z).symm) ?_
      refine Rd.eq (fun g => by rw [f_L_holds_l156]) ?_
      refine Rd.neg hno (a1.bnd (a2.bnd ?_))
      have := f2 q
      exact Rd.neg (fun z => by
        have := (nle (by omega) (by omega)).mp z
        unfold dg at this
        omega) hκ
theorem hd_109 {x1 : Int32} (hC : CZ Z c) (hB : BOk b) (hA : Ans b v) (hn : 500 ≤ n) (h196 : Rd c b v (fun g => f_L_holds_l196 n Z c x1 (nI v.2.length) 1 g) 1) : ∀ (d r fu : Nat), d = v.2.length - (r + 1) → r ≤ 32 → d < fu → Rd c b v (fun g => f_L_holds_l109 n Z fu c x1 (nI v.2.length) (nI v.1) 1 (nI (r + 1)) g) 1 := by
  have h32 := (hA.good hB).2.2.2.2.1
  have hso := (hA.good hB).2.2.2.1
  have h4 := hA.w4 hB
  intro d
  induction d with
  | zero =>
    intro r fu hd hr hfu
    obtain ⟨fu, rfl⟩ : ∃ q, fu = q + 1 := ⟨fu - 1, by omega⟩
    refine Rd.eq (fun g => by rw [f_L_holds_l109]) ?_
    exact Rd.pos ((nle (by omega) (by omega)).mpr (by omega)) h196
  | succ d ih =>
    intro r fu hd hr hfu
    obtain ⟨fu, rfl⟩ : ∃ q, fu = q + 1 := ⟨fu - 1, by omega⟩
    have hVO : VOk v := by
      rcases hA.rough hB with ⟨_, z⟩ | ⟨_, z⟩
      · rw [z] at hd; exact absurd hd (by show ¬ d + 1 = 0 - (r + 1); omega)
      · exact z
    have hk : ∀ k, k < v.2.length → (v.2.getD k (0, [])).1 / 10 ^ (v.1 - 0) = 0 := fun k hk => Nat.div_eq_of_lt (hVO.2.2 _ (getD_mem (d := (0, [])) hk))
    refine Rd.eq (fun g => by rw [f_L_holds_l109]) ?_
    refine Rd.neg (ge_n (by omega) (by omega)) (Rd.neg i1z ?_)
    refine hd_123 (κ := fun y0 y1 y2 y3 y4 y5 y => f_L_holds_l109 n Z fu y0 y1 y2 y3 y4 y5 y) hC h4 (by omega) h32 (hso.get (by omega)) ?_ v.1 0 n (by omega) (by omega) (by omega) (by rw [hk r (by omega), hk (r + 1) (by omega)])
    show Rd c b v (fun g => f_L_holds_l109 n Z fu c x1 (nI v.2.length) (nI v.1) 1 (nI (r + 1) + 1) g) 1
    rw [nI_1]
    exact ih (r + 1) fu (by omega) (by omega) (by omega)
/-! a form's terms -/
theorem hd_447 {κ : Nat → Int32 → Int32 → Int32 → Int32 → Int32 → Mem → Option (Int32 × Mem)} {k f j : Nat} {x7 : Int32} (hn : 500 ≤ n) (hC : CZ Z c) (hk : k < v.2.length) (hf : f < 5) (hF : FinOk f (rowP v k) (fin f (rowP v k))) (hj : j < (fin f (rowP v k)).length) (hκ : Rd c b v (fun g => κ c 1 (nI k) (nI f) x7 (nI j + 1) g) 1) : Rd c b v (fun g => f_L_holds_l447 n Z κ c (nI k) (nI f) x7 (nI j) g) 1 := by
  have h1 := rd_coefficient (n := n) (b := b) hn hC hk hf hj
  obtain ⟨c1, c2, c3⟩ := hF.2.2.2.1 _ (getD_mem (d := (0, 0)) hj)
  have t1 := toInt_u c2
  have hlt : ¬ lg_cmp ((fin f (rowP v k)).getD j (0, 0)).2 (1 : Int64) < 0 := fun z => by
    have := (lg_cmp_lt _ _).mp z
    rw [Int64.lt_iff_toInt_lt, t1, show (1 : Int64).toInt = 1 by decide] at this
    omega
  refine Rd.eq (fun g => by rw [f_L_holds_l447]) ?_
  refine h1.bnd (Rd.neg hlt ?_)
  by_cases q0 : f = 0
  · subst q0; exact Rd.pos rfl hκ
  refine Rd.neg (show ¬ nI f = (0 : Int32) from neI (b := 0) (by omega) (by omega) q0) ?_
  by_cases q2 : f = 2
  · subst q2; exact Rd.pos rfl hκ
  refine Rd.neg (show ¬ nI f = (2 : Int32) from neI (b := 2) (by omega) (by omega) q2) (h1.bnd ?_)
  exact Rd.pos ((lg_cmp_eq _ _).mpr (c3 q0 q2)) hκ
theorem ex_16 (x : Int64) {t : Nat} : ex x t = uN x / 16 ^ (16 - 1 - t) % 16 := by
  unfold ex
  rw [p416, show 16 - 1 - t = 15 - t by omega]
theorem hd_382 {κ : Nat → Int32 → Int32 → Int32 → Int32 → Int32 → Mem → Option (Int32 × Mem)} {k f j : Nat} {x7 x8 : Int32} (hn : 500 ≤ n) (hC : CZ Z c) (hk : k < v.2.length) (hf : f < 5) (hF : FinOk f (rowP v k) (fin f (rowP v k))) (hT : ∀ a ∈ rowP v k, tsN a.1 ≠ 0) (hj : j < (fin f (rowP v k)).length) (hκ : Rd c b v (fun g => κ c 1 (nI k) (nI f) x7 (nI j + 1) g) 1)
    (h8 : j = 0 ∨ ∃ t, t < 16 ∧ x8 = nI t ∧ 0 < j ∧ ex ((fin f (rowP v k)).getD j (0, 0)).1 t < ex ((fin f (rowP v k)).getD (j - 1) (0, 0)).1 t) : Rd c b v (fun g => f_L_holds_l382 n Z κ c 1 (nI k) (nI f) x7 x8 (nI j) (nI (tsN ((fin f (rowP v k)).getD j (0, 0)).1)) g) 1 := by
  obtain ⟨a0, m1, m2⟩ := hF.2.2.1 _ (getD_mem (d := (0, 0)) hj)
  have hts : tsN ((fin f (rowP v k)).getD j (0, 0)).1 = tsN a0.1 := by rw [m2, ts_mF]
  have h0 := hT a0 m1
  have hlt := tsN_lt ((fin f (rowP v k)).getD j (0, 0)).1
  have hll := tsN_lt (orK (rowP v k) 0)
  have hlen := hF.1
  refine Rd.eq (fun g => by rw [f_L_holds_l382]) ?_
  refine Rd.neg i1z (Rd.neg (fun z => by
    have := (nle (b := 0) (by omega) (by omega)).mp z
    omega) ((rd_lineage hn hC hk).bnd (Rd.pos (mask_in hlt hll (by rw [hts]; exact lin_sub m1)) ?_)))
  rcases h8 with rfl | ⟨t, ht, rfl, hj0, he⟩
  · exact Rd.pos rfl (hd_447 hn hC hk hf hF hj hκ)
  · have e1 := rd_exponent (n := n) (b := b) hn hC hk hf hj ht
    have e2 : Rd c b v (f_X10_exponent n Z c (nI k) (nI f) (nI j - (1 : Int32)) (nI t)) (nI (ex ((fin f (rowP v k)).getD (j - 1) (0, 0)).1 t)) := by
      rw [show nI j - (1 : Int32) = nI (j - 1) from subN (b := 1) (by omega)]
      exact rd_exponent hn hC hk hf (by omega) ht
    have l1 := ex_lt ((fin f (rowP v k)).getD j (0, 0)).1 t
    have l2 := ex_lt ((fin f (rowP v k)).getD (j - 1) (0, 0)).1 t
    refine Rd.neg (show ¬ nI j = (0 : Int32) from neI (b := 0) (by omega) (by omega) (by omega)) (Rd.neg (show ¬ (16 : Int32) ≤ nI t from ge_n (N := 16) (by omega) ht) (e1.bnd (e2.bnd (Rd.neg (fun z => by
      have := (nle (by omega) (by omega)).mp z
      omega) ?_))))
    exact hd_447 hn hC hk hf hF hj hκ
theorem hd_335 {κ : Nat → Int32 → Int32 → Int32 → Int32 → Int32 → Mem → Option (Int32 × Mem)} {k f j : Nat} {x7 : Int32} (hn : 500 ≤ n) (hC : CZ Z c) (hk : k < v.2.length) (hf : f < 5) (hF : FinOk f (rowP v k) (fin f (rowP v k))) (hT : ∀ a ∈ rowP v k, tsN a.1 ≠ 0) (hj : j < (fin f (rowP v k)).length) (hκ : Rd c b v (fun g => κ c 1 (nI k) (nI f) x7 (nI j + 1) g) 1) : ∀ (d t fu : Nat), d = 16 - t → t ≤ 16 → d < fu → (0 < j → uN ((fin f (rowP v k)).getD j (0, 0)).1 / 16 ^ (16 - t) = uN ((fin f (rowP v k)).getD (j - 1) (0, 0)).1 / 16 ^ (16 - t)) → Rd c b v (fun g => f_L_holds_l335 n Z κ fu c 1 (nI k) (nI f) x7 (nI t) (nI j) (nI (tsN ((fin f (rowP v k)).getD j (0, 0)).1)) g) 1 := by
  have hlen := hF.1
  intro d
  induction d with
  | zero =>
    intro t fu hd ht hfu hq
    obtain ⟨fu, rfl⟩ : ∃ q, fu = q + 1 := ⟨fu - 1, by omega⟩
    refine Rd.eq (fun g => by rw [f_L_holds_l335]) ?_
    by_cases q0 : j = 0
    · subst q0
      exact Rd.pos (show nI 0 ≤ (0 : Int32) by decide) (hd_382 hn hC hk hf hF hT hj hκ (Or.inl rfl))
    · have hlt := hF.2.1.get (k := j - 1) (by omega)
      have := hq (by omega)
      rw [show 16 - t = 0 by omega, Nat.pow_zero, Nat.div_one, Nat.div_one] at this
      rw [show j - 1 + 1 = j by omega] at hlt
      omega
  | succ d ih =>
    intro t fu hd ht hfu hq
    obtain ⟨fu, rfl⟩ : ∃ q, fu = q + 1 := ⟨fu - 1, by omega⟩
    refine Rd.eq (fun g => by rw [f_L_holds_l335]) ?_
    by_cases q0 : j = 0
    · subst q0
      exact Rd.pos (show nI 0 ≤ (0 : Int32) by decide) (hd_382 hn hC hk hf hF hT hj hκ (Or.inl rfl))
    · have hlt := hF.2.1.get (k := j - 1) (by omega)
      rw [show j - 1 + 1 = j by omega] at hlt
      have ht' : t < 16 := by omega
      obtain ⟨f1, f2⟩ := fst_dig (B := 16) (by omega) ht' (hq (by omega)) hlt
      have e1 := rd_exponent (n := n) (b := b) hn hC hk hf hj ht'
      have e2 : Rd c b v (f_X10_exponent n Z c (nI k) (nI f) (nI j - (1 : Int32)) (nI t)) (nI (ex ((fin f (rowP v k)).getD (j - 1) (0, 0)).1 t)) := by
        rw [show nI j - (1 : Int32) = nI (j - 1) from subN (b := 1) (by omega)]
        exact rd_exponent hn hC hk hf (by omega) ht'
      have l1 := ex_lt ((fin f (rowP v k)).getD j (0, 0)).1 t
      have l2 := ex_lt ((fin f (rowP v k)).getD (j - 1) (0, 0)).1 t
      rw [← ex_16, ← ex_16] at f1 f2
      refine Rd.neg (fun z => by
        have := (nle (b := 0) (by omega) (by omega)).mp z
        omega) (Rd.neg (show ¬ (16 : Int32) ≤ nI t from ge_n (N := 16) (by omega) ht') (e1.bnd (e2.bnd ?_)))
      by_cases q : ex ((fin f (rowP v k)).getD j (0, 0)).1 t = ex ((fin f (rowP v k)).getD (j - 1) (0, 0)).1 t
      · refine Rd.pos (by rw [q]) ?_
        rw [nI_1]
        exact ih (t + 1) fu (by omega) (by omega) (by omega) fun _ => f1 q
      · refine Rd.neg (fun z => q ((neq (by omega) (by omega)).mp z)) ?_
        exact hd_382 hn hC hk hf hF hT hj hκ (Or.inr ⟨t, ht', rfl, by omega, f2 q⟩)
theorem hd_297 {κ240 : Nat → Int32 → Int32 → Int32 → Int32 → Int32 → Mem → Option (Int32 × Mem)} {κ : Nat → Int32 → Int32 → Int32 → Int32 → Int32 → Int32 → Int32 → Int32 → Mem → Option (Int32 × Mem)} {x5 x7 x8 x9 x11 s0 s1 : Int32} {f e : Nat} (hf : f < 5) (he : e < 16) (hfe : 2 ≤ f → e ≤ 1) (hκ : Rd c b v (fun g => κ c 1 x5 (nI f) x7 x8 x9 (s1 ||| s0) (x11 + 1) g) 1) : Rd c b v (fun g => f_L_holds_l297 n Z κ240 κ c 1 x5 (nI f) x7 x8 x9 x11 (nI e) s0 s1 g) 1 := by
  refine Rd.eq (fun g => by rw [f_L_holds_l297]) ?_
  refine Rd.neg i1z (Rd.neg (fun q => by rw [not_neg (by omega)] at q; exact q) ?_)
  by_cases q : f < 2
  · exact Rd.pos ((nlt (b := 2) (by omega) (by omega)).mpr q) hκ
  · refine Rd.neg (fun z => q ((nlt (b := 2) (by omega) (by omega)).mp z)) (Rd.neg (fun z => by
      have := (nle (a := 2) (by omega) (by omega)).mp z
      have := hfe (by omega)
      omega) hκ)
theorem hd_261 {κ : Nat → Int32 → Int32 → Int32 → Int32 → Int32 → Mem → Option (Int32 × Mem)} {k f j : Nat} {x7 x8 : Int32} (hn : 500 ≤ n) (hC : CZ Z c) (hk : k < v.2.length) (hf : f < 5) (hF : FinOk f (rowP v k) (fin f (rowP v k))) (hj : j < (fin f (rowP v k)).length) (h335 : Rd c b v (fun g => f_L_holds_l335 n Z κ n c 1 (nI k) (nI f) x7 x8 (nI j) (nI (tsN ((fin f (rowP v k)).getD j (0, 0)).1)) g) 1) : ∀ (d i fu : Nat), d = 16 - i → i ≤ 16 → d < fu → Rd c b v (fun g => f_L_holds_l261 n Z κ fu c 1 (nI k) (nI f) x7 x8 (nI j) (nI (mk (sB ((fin f (rowP v k)).getD j (0, 0)).1) i)) (nI i) g) 1 := by
  obtain ⟨a0, m1, m2⟩ := hF.2.2.1 _ (getD_mem (d := (0, 0)) hj)
  intro d
  induction d with
  | zero =>
    intro i fu hd hi hfu
    obtain ⟨fu, rfl⟩ : ∃ q, fu = q + 1 := ⟨fu - 1, by omega⟩
    have : i = 16 := by omega
    subst this
    refine Rd.eq (fun g => by rw [f_L_holds_l261]) ?_
    exact Rd.pos (show (16 : Int32) ≤ nI 16 by decide) h335
  | succ d ih =>
    intro i fu hd hi hfu
    obtain ⟨fu, rfl⟩ : ∃ q, fu = q + 1 := ⟨fu - 1, by omega⟩
    have hi' : i < 16 := by omega
    have e1 := rd_exponent (n := n) (b := b) hn hC hk hf hj hi'
    have l1 := ex_lt ((fin f (rowP v k)).getD j (0, 0)).1 i
    have hfe : 2 ≤ f → ex ((fin f (rowP v k)).getD j (0, 0)).1 i ≤ 1 := fun h2 => by
      rw [m2]
      unfold mF
      rw [if_neg (by omega)]
      exact flt_FL _ i hi'
    have hmk := mk_lt (sB ((fin f (rowP v k)).getD j (0, 0)).1) i
    have hp : 2 ^ i ≤ 2 ^ 16 := Nat.pow_le_pow_right (by omega) hi
    refine Rd.eq (fun g => by rw [f_L_holds_l261]) ?_
    refine Rd.neg (show ¬ (16 : Int32) ≤ nI i from ge_n (N := 16) (by omega) hi') (e1.bnd ?_)
    by_cases q : ex ((fin f (rowP v k)).getD j (0, 0)).1 i = 0
    · refine Rd.pos (by rw [q]; decide) (hd_297 hf l1 hfe ?_)
      have hsb : ¬ sB ((fin f (rowP v k)).getD j (0, 0)).1 i = true := fun z => absurd q (of_decide_eq_true z)
      show Rd c b v (fun g => f_L_holds_l261 n Z κ fu c 1 (nI k) (nI f) x7 x8 (nI j) (nI (mk (sB ((fin f (rowP v k)).getD j (0, 0)).1) i) ||| nI 0) (nI i + 1) g) 1
      rw [or_n (by omega) (by omega), Nat.or_zero, ← mk_no hsb, nI_1]
      exact ih (i + 1) fu (by omega) (by omega) (by omega)
    · refine Rd.neg (fun z => by
        have := (nle (b := 0) (by omega) (by omega)).mp z
        omega) (hd_297 hf l1 hfe ?_)
      have hsb : sB ((fin f (rowP v k)).getD j (0, 0)).1 i = true := decide_eq_true q
      show Rd c b v (fun g => f_L_holds_l261 n Z κ fu c 1 (nI k) (nI f) x7 x8 (nI j) (nI (mk (sB ((fin f (rowP v k)).getD j (0, 0)).1) i) ||| ((1 : Int32) <<< (nI i &&& 31))) (nI i + 1) g) 1
      rw [or_bit (by omega) hsb, nI_1]
      exact ih (i + 1) fu (by omega) (by omega) (by omega)
theorem hd_240 {k f : Nat} (hn : 500 ≤ n) (hC : CZ Z c) (hk : k < v.2.length) (hf : f < 5) (hF : FinOk f (rowP v k) (fin f (rowP v k))) (hT : ∀ a ∈ rowP v k, tsN a.1 ≠ 0) (h501 : Rd c b v (fun g => f_L_holds_l501 n Z c 1 (nI k) (nI (fin f (rowP v k)).length) g) 1) : ∀ (d j fu : Nat), d = (fin f (rowP v k)).length - j → j ≤ (fin f (rowP v k)).length → d < fu → Rd c b v (fun g => f_L_holds_l240 n Z fu c 1 (nI k) (nI f) (nI (fin f (rowP v k)).length) (nI j) g) 1 := by
  have hlen := hF.1
  intro d
  induction d with
  | zero =>
    intro j fu hd hj hfu
    obtain ⟨fu, rfl⟩ : ∃ q, fu = q + 1 := ⟨fu - 1, by omega⟩
    refine Rd.eq (fun g => by rw [f_L_holds_l240]) ?_
    exact Rd.pos ((nle (by omega) (by omega)).mpr (by omega)) h501
  | succ d ih =>
    intro j fu hd hj hfu
    obtain ⟨fu, rfl⟩ : ∃ q, fu = q + 1 := ⟨fu - 1, by omega⟩
    have hj' : j < (fin f (rowP v k)).length := by omega
    refine Rd.eq (fun g => by rw [f_L_holds_l240]) ?_
    refine Rd.neg (ge_n (by omega) hj') (Rd.neg i1z ?_)
    have hκ : Rd c b v (fun g => (fun y0 y1 y2 y3 y4 y5 y => f_L_holds_l240 n Z fu y0 y1 y2 y3 y4 y5 y) c 1 (nI k) (nI f) (nI (fin f (rowP v k)).length) (nI j + 1) g) 1 := by
      show Rd c b v (fun g => f_L_holds_l240 n Z fu c 1 (nI k) (nI f) (nI (fin f (rowP v k)).length) (nI j + 1) g) 1
      rw [nI_1]
      exact ih (j + 1) fu (by omega) (by omega) (by omega)
    refine hd_261 (x8 := 0) hn hC hk hf hF hj' ?_ 16 0 n rfl (by omega) (by omega)
    exact hd_335 hn hC hk hf hF hT hj' hκ 16 0 n rfl (by omega) (by omega) fun _ => by
      have k1 := uN_lt ((fin f (rowP v k)).getD j (0, 0)).1
      have k2 := uN_lt ((fin f (rowP v k)).getD (j - 1) (0, 0)).1
      have e : (16 : Nat) ^ (16 - 0) = 2 ^ 64 := by decide
      rw [e, Nat.div_eq_of_lt k1, Nat.div_eq_of_lt k2]
/-! evaluation -/
theorem hd_682 {k : Nat} {x10 : UInt32} (hn : 500 ≤ n) (hC : CZ Z c) (hk : k < v.2.length) (h0 : rowP v k ≠ []) (hx : F1 x10) : Rd c b v (fun g => f_L_holds_l682 n Z c (nI k) x10 g) 1 := by
  have hw := worlds_pos h0
  have hle := cntN_le (f := wB (rowP v k) (tsN (orK (rowP v k) 0))) 65536
  refine Rd.eq (fun g => by rw [f_L_holds_l682]) ?_
  refine Rd.neg hx.lo (Rd.neg hx.hi ((rd_worlds hn hC hk).bnd (Rd.neg (fun z => by
    have := (nlt (b := 1) (by omega) (by omega)).mp z
    omega) Rd.pure)))
theorem hd_517 {k L : Nat} {s0 : Int32} (hn : 500 ≤ n) (hC : CZ Z c) (hB : BOk b) (hA : Ans b v) (hk : k < v.2.length) (hL1 : 0 < L) (hL2 : L ≤ 32) (hs : s0 = 0 ∧ fav (goneB b) (rowP v k) = [] ∨ ¬ s0 = 0 ∧ fav (goneB b) (rowP v k) ≠ []) : Rd c b v (fun g => f_L_holds_l517 n Z c 1 (nI k) (nI L) s0 g) 1 := by
  have hg := hA.good hB
  have hmem := getD_mem (d := (0, [])) hk
  have hne : rowP v k ≠ [] := hA.ne _ hmem
  have hTG : ∀ x ∈ mons (rowP v k), TG b 9 x := fun x hx => hg.1 _ hmem x hx
  have hF1 : F1 ((fav (goneB b) (rowP v k)).foldl (bcF b) FP.fconst0) := bcF_all hB F1.zero
  have h682 := hd_682 (n := n) (b := b) hn hC hk hne hF1
  have hTl := (bm_mk (tagB b)).1
  have hGl := (bm_mk (goneB b)).1
  have hll := tsN_lt (orK (rowP v k) 0)
  refine Rd.eq (fun g => by rw [f_L_holds_l517]) ?_
  refine (rd_confidence hn hC hk).bnd (Rd.neg i1z ?_)
  refine Rd.neg (fun z => by
    have := (nle (b := 0) (by omega) (by omega)).mp z
    omega) ?_
  refine Rd.neg (fun z => by
    have := (nlt (a := 32) (by omega) (by omega)).mp z
    omega) ((rd_lineage hn hC hk).bnd ((rd_tags hC).bnd ?_))
  refine Rd.pos (mask_in hll hTl (lin_tags hTG)) ?_
  rcases hs with ⟨rfl, h0⟩ | ⟨hs, h0⟩
  · refine Rd.pos rfl ((rd_leastCost0 hn hC hk h0).bnd (Rd.pos rfl ((rd_answerTrust0 hn hC hk h0).bnd (Rd.pos rfl ((rd_cheapestTags0 hn hC hk h0).bnd (Rd.pos rfl (Rd.pos ?_ h682)))))))
    rw [h0]
    show Op.cmpValue (FP.fcmp FP.fconst0 FP.fconst0) .l = 0
    decide
  · have hch := chV_mem (b := b) h0
    have hch2 : chV b (fav (goneB b) (rowP v k)) ∈ mons (rowP v k) ∧ avl (goneB b) (chV b (fav (goneB b) (rowP v k))) = true := by
      obtain ⟨a, a1, a2⟩ := List.mem_map.mp hch
      rw [← a2]
      exact ⟨List.mem_map_of_mem (List.mem_filter.mp a1).1, (List.mem_filter.mp a1).2⟩
    have hco := co_lt hB (chV b (fav (goneB b) (rowP v k)))
    have hts := tsN_lt (chV b (fav (goneB b) (rowP v k)))
    have hts0 := ts_ne (hTG _ hch2.1)
    have hmx := mx_le (b := b) (ys := fav (goneB b) (rowP v k)) (s := 0) (by omega)
    have hme := me_lt (ys := fav (goneB b) (rowP v k)) hTl
    have hsub := (me_sub (ys := fav (goneB b) (rowP v k)) (s := mk (tagB b) 16)).2 _ hch
    have c1 := rd_leastCost (n := n) hn hC hk h0
    have c2 := rd_answerTrust (n := n) hn hC hk h0
    have c3 := rd_cheapestTags (n := n) hn hC hk h0
    have c4 := rd_needed (n := n) hn hC hk h0
    refine Rd.neg hs (c1.bnd ?_)
    refine Rd.neg (fun q => by rw [not_neg (by omega)] at q; exact q) (c2.bnd ?_)
    refine Rd.neg (fun q => by rw [not_neg (by omega)] at q; exact q) (c2.bnd ?_)
    refine Rd.neg (fun z => by
      have := (nlt (a := 100) (by omega) (by omega)).mp z
      omega) (c3.bnd ?_)
    refine Rd.neg (fun z => by
      have := (nle (b := 0) (by omega) (by omega)).mp z
      omega) (c3.bnd ((rd_withdrawn hC).bnd ?_))
    refine Rd.pos ?_ (c3.bnd (c4.bnd (c4.bnd (Rd.pos ?_ h682))))
    · rw [and_n (by omega) (by omega), (set_avl (bm_mk (goneB b))).mpr hch2.2]; rfl
    · rw [and_n (by omega) (by omega), Nat.and_comm, hsub]
theorem hd_501 {k L : Nat} (hn : 500 ≤ n) (hC : CZ Z c) (hB : BOk b) (hA : Ans b v) (hk : k < v.2.length) (hL1 : 0 < L) (hL2 : L ≤ 32) : Rd c b v (fun g => f_L_holds_l501 n Z c 1 (nI k) (nI L) g) 1 := by
  have hg := hA.good hB
  have hmem := getD_mem (d := (0, [])) hk
  have hw : wP (rowP v k) ≤ 16 ^ 12 := Nat.le_trans (wL_mem hmem) hg.2.1
  have hp : (16 : Nat) ^ 12 < 2 ^ 63 := by decide
  have hwf : wP (fav (goneB b) (rowP v k)) ≤ wP (rowP v k) := wP_sub _ _
  have hc1 : CP1 (fav (goneB b) (rowP v k)) := fun a ha => hg.2.2.1 _ hmem a (List.mem_filter.mp ha).1
  have hs := sumF_w (ys := fav (goneB b) (rowP v k)) (s := 0) (by rw [uN_0]; omega)
  rw [uN_0] at hs
  have hti := toInt_u (x := (fav (goneB b) (rowP v k)).foldl sumF 0) (by omega)
  refine Rd.eq (fun g => by rw [f_L_holds_l501]) ?_
  refine (rd_derivations hn hC hk).bnd ?_
  by_cases q : fav (goneB b) (rowP v k) = []
  · refine Rd.pos ?_ (hd_517 hn hC hB hA hk hL1 hL2 (Or.inl ⟨rfl, q⟩))
    rw [q]; decide
  · have := wP_pos hc1 q
    refine Rd.neg (fun z => ?_) (hd_517 hn hC hB hA hk hL1 hL2 (Or.inr ⟨i1z, q⟩))
    have z := (lg_cmp_le _ _).mp z
    rw [Int64.le_iff_toInt_le, hti, show (0 : Int64).toInt = 0 by decide] at z
    omega
theorem hd_196 (hn : 500 ≤ n) (hC : CZ Z c) (hB : BOk b) (hA : Ans b v) (x : Int32) : Rd c b v (fun g => f_L_holds_l196 n Z c x (nI v.2.length) 1 g) 1 := by
  have hg := hA.good hB
  have h32 := hg.2.2.2.2.1
  refine Rd.eq (fun g => by rw [f_L_holds_l196]) ?_
  refine Rd.neg i1z ?_
  by_cases q : v.2.length = 0
  · exact Rd.pos (by rw [q]; rfl) (Rd.grd (Or.inr rfl) Rd.pure)
  refine Rd.neg (show ¬ nI v.2.length = (0 : Int32) from neI (b := 0) (by omega) (by omega) q) ?_
  have hk : lowN x v.2.length < v.2.length := lowN_lt (by omega)
  have hf : lowN (x >>> ((5 : Int32) &&& 31)) 5 < 5 := lowN_lt (by omega)
  have l2 : Rd c b v (fun g => f_L_low n Z (x >>> ((5 : Int32) &&& 31)) (5 : Int32) g) (nI (lowN (x >>> ((5 : Int32) &&& 31)) 5)) := rd_low (m := 5) (by omega) (by omega)
  refine (rd_low (by omega) (by omega)).bnd (l2.bnd ((rd_terms hn hC hk hf).bnd ?_))
  have hmem := getD_mem (d := (0, [])) hk
  have hw : wP (rowP v (lowN x v.2.length)) ≤ 16 ^ 12 := Nat.le_trans (wL_mem hmem) hg.2.1
  have hp : (16 : Nat) ^ 12 < 2 ^ 63 := by decide
  have hF := fin_ok (f := lowN (x >>> ((5 : Int32) &&& 31)) 5) (xs := rowP v (lowN x v.2.length)) hf (hg.2.2.2.2.2 _ hmem) (hA.ne _ hmem) (hg.2.2.1 _ hmem) (by omega)
  have hT : ∀ a ∈ rowP v (lowN x v.2.length), tsN a.1 ≠ 0 := fun a ha => ts_ne (hg.1 _ hmem a.1 (List.mem_map_of_mem ha))
  have hl := List.length_pos_iff.mpr hF.2.2.2.2
  exact hd_240 hn hC hk hf hF hT (hd_501 hn hC hB hA hk hl hF.1) _ 0 n rfl (by omega) (by have := hF.1; omega)
theorem gone_tag (hB : BOk b) : mk (goneB b) 16 &&& mk (tagB b) 16 = mk (goneB b) 16 := by
  have hT := bm_mk (tagB b)
  have hG := bm_mk (goneB b)
  apply Nat.eq_of_testBit_eq
  intro i
  rw [Nat.testBit_and]
  by_cases hi : i < 16
  · rw [hT.2 i hi, hG.2 i hi]
    unfold goneB tagB
    by_cases q : b (4 + 5 * i) = 0
    · have := ((hB.2.1 i hi).2.2.2.2.2 q).2.2.2
      simp [q, this]
    · simp [q]
  · have h1 : mk (goneB b) 16 < 2 ^ i := Nat.lt_of_lt_of_le hG.1 (Nat.pow_le_pow_right (n := 2) (i := 16) (by omega) (by omega))
    rw [Nat.testBit_lt_two_pow h1]; simp
theorem tagI_16 : ¬ tagI b (16 : Int32) := fun ⟨t, ht, e, _⟩ => by
  have := (neq (a := 16) (by omega) (by omega)).mp (show nI 16 = nI t from e)
  omega
/-- holds says true of every state that can stand -/
theorem rd_holds (hn : 500 ≤ n) (hC : CZ Z c) (hB : BOk b) (hA : Ans b v) (x : Int32) : Rd c b v (f_L_holds n Z c x) 1 := by
  have hg := hA.good hB
  have h32 := hg.2.2.2.2.1
  have h4 := hA.w4 hB
  have h60 := hB.2.2.1
  have h109 := hd_109 (n := n) (b := b) hC hB hA hn (hd_196 hn hC hB hA x) _ 0 n rfl (by omega) (by omega)
  have hrg : nI v.2.length < 0 ∨ nI v.2.length ≤ nI v.2.length := Or.inr ((nle (by omega) (by omega)).mpr (Nat.le_refl _))
  have h42 : ∀ s : Int32, Rd c b v (fun g => f_L_holds_l42 n Z c x (nI v.2.length) (nI v.1) s s g) 1 := fun s => by
    refine Rd.eq (fun g => by rw [f_L_holds_l42]) ?_
    refine Rd.pos rfl ((rd_withdrawn hC).bnd ((rd_tags hC).bnd ?_))
    refine Rd.pos (mask_in (bm_mk (goneB b)).1 (bm_mk (tagB b)).1 (gone_tag hB)) ((rd_termsO hC hrg).bnd (Rd.pos rfl ?_))
    refine (rd_lineageO hC (Or.inl (by decide))).bnd (Rd.pos rfl ?_)
    refine (rd_confidenceO hC hrg).bnd (Rd.pos (by decide) ?_)
    exact (rd_tableOfO hC tagI_16).bnd (Rd.pos rfl h109)
  have h30 : ∀ s : Int32, s = (if b 84 = 0 then 0 else 1) → Rd c b v (fun g => f_L_holds_l30 n Z c x (nI v.2.length) (nI v.1) s g) 1 := fun s hs => by
    refine Rd.eq (fun g => by rw [f_L_holds_l30]) ?_
    refine (rd_queryLength hC).bnd ?_
    by_cases q : b 84 = 0
    · rw [if_pos q] at hs
      subst hs
      exact Rd.pos (by rw [q]; decide) (h42 0)
    · rw [if_neg q] at hs
      subst hs
      exact Rd.neg (fun z => by
        have := (nle (b := 0) (by omega) (by omega)).mp z
        omega) (h42 1)
  have hw0 : v.1 = 0 ↔ b 84 = 0 := by
    rcases hA.rough hB with ⟨y, z⟩ | ⟨y, z⟩
    · rw [z]; exact ⟨fun _ => y, fun _ => rfl⟩
    · have := z.1
      exact ⟨fun w => by omega, fun w => absurd w y⟩
  refine Rd.eq (fun g => by rw [f_L_holds]) ?_
  refine (rd_answerRows hC).bnd ((rd_answerColumns hC).bnd (Rd.neg (fun z => by
    have := (nlt (a := 32) (by omega) (by omega)).mp z
    omega) (Rd.neg (fun z => by
    have := (nlt (a := 4) (by omega) (by omega)).mp z
    omega) ?_)))
  by_cases q : v.1 = 0
  · exact Rd.pos (by rw [q]; decide) (h30 0 (by rw [if_pos (hw0.mp q)]))
  · exact Rd.neg (fun z => by
      have := (nle (b := 0) (by omega) (by omega)).mp z
      omega) (h30 1 (by rw [if_neg fun z => q (hw0.mpr z)]))
end HOLDS

/-! THE REFERENCE PRINTS -/
def pPr (m b j : Nat) : Prop := (b = m ∧ j = 31) ∨ b = m + 20
section MPRINT
variable {n : Nat} {Z : Zt} {m : Nat}
theorem m_put {x : Nat} {P : List Nat} {g : Mem} (hM : MZ Z m) (h : PrM g m P) (hl : P.length < 3000) : ∃ g', f_X11_prints n Z m (nI x) g = some ((), g') ∧ PrM g' m (P ++ [x]) ∧ Ch (pPr m) g g' := by
  have hlen : (P ++ [x]).length = P.length + 1 := by rw [List.length_append]; rfl
  refine ⟨sI (sI g (m + 20) P.length (nI x)) m 31 (nI (P.length + 1)), ?_, ⟨by rw [gI_sI, if_pos ⟨rfl, rfl⟩, hlen], fun j hj => ?_⟩, (Ch.rfl.sI (Or.inr rfl)).sI (Or.inl ⟨rfl, rfl⟩)⟩
  · unfold f_X11_prints
    have e2 : gI (sI g (m + 20) P.length (nI x)) m 31 = nI P.length := by rw [gI_sI, if_neg (by omega)]; exact h.1
    rw [grd_t hM.k, hM.f30, drf_s, grd_t hM.k30, hM.l30, h.1, grd_t (by rw [inr_eq (by omega)]; omega), clamp (by omega), e2, nI_1]
  · rw [hlen] at hj
    rw [gI_sI, if_neg (by omega), gI_sI]
    by_cases q : j = P.length
    · rw [if_pos ⟨rfl, q⟩, q, getD_append_right']
    · rw [if_neg (fun z => q z.2), getD_append_left' (by omega)]; exact h.2 j (by omega)
theorem m_num21 {v : Nat} (hM : MZ Z m) (hv : v < 10 ^ 17) : ∀ (e fu : Nat) (P : List Nat) (g : Mem), e + 1 < fu → e < 18 → PrM g m P → P.length + (e + 1) ≤ 3000 → ∃ g', f_X11_printsNumber_l21 n Z m fu (lN v) (lN (10 ^ e)) g = some ((), g') ∧ PrM g' m (P ++ digL v e) ∧ Ch (pPr m) g g' := by
  intro e
  have c0 : ∀ e, e < 18 → 10 ^ e < 2 ^ 63 := fun e he => by
    have : 10 ^ e ≤ 10 ^ 17 := Nat.pow_le_pow_right (by omega) (by omega)
    omega
  induction e with
  | zero =>
    intro fu P g h1 h2 h3 h4
    obtain ⟨fu, rfl⟩ : ∃ q, fu = q + 1 := ⟨fu - 1, by omega⟩
    obtain ⟨fu, rfl⟩ : ∃ q, fu = q + 1 := ⟨fu - 1, by omega⟩
    obtain ⟨g1, a1, a2, a3⟩ := m_put (n := n) (x := 48 + v % 10) hM h3 (by omega)
    refine ⟨g1, ?_, a2, a3⟩
    have hq : (48 : Int32) + ((lN v / lN (10 ^ 0)) - (lN v / lN (10 ^ 0)) / (10 : Int64) * (10 : Int64)).toInt32 = nI (48 + v % 10) := by
      rw [pk_lDiv (by omega) (by decide) (by decide), show (10 : Int64) = lN 10 from rfl, pk_lRem (by rw [Nat.pow_zero, Nat.div_one]; omega) (by decide) (by decide), lN_i, Nat.pow_zero, Nat.div_one]
      exact nI_add 48 (v % 10)
    rw [f_X11_printsNumber_l21, if_neg (show ¬ lg_cmp (lN (10 ^ 0)) 0 ≤ 0 by decide), grd_t (show ¬ lN (10 ^ 0) = 0 by decide), hq, a1, bnd_s]
    rw [show lN (10 ^ 0) / (10 : Int64) = lN 0 by decide, f_X11_printsNumber_l21, if_pos (show lg_cmp (lN 0) 0 ≤ 0 by decide)]
  | succ e ih =>
    intro fu P g h1 h2 h3 h4
    obtain ⟨fu, rfl⟩ : ∃ q, fu = q + 1 := ⟨fu - 1, by omega⟩
    have hp : 0 < 10 ^ (e + 1) := Nat.pow_pos (by omega)
    have hle : v / 10 ^ (e + 1) ≤ v := Nat.div_le_self ..
    obtain ⟨g1, a1, a2, a3⟩ := m_put (n := n) (x := 48 + v / 10 ^ (e + 1) % 10) hM h3 (by omega)
    have hq : (48 : Int32) + ((lN v / lN (10 ^ (e + 1))) - (lN v / lN (10 ^ (e + 1))) / (10 : Int64) * (10 : Int64)).toInt32 = nI (48 + v / 10 ^ (e + 1) % 10) := by
      rw [pk_lDiv (by omega) hp (c0 _ (by omega)), show (10 : Int64) = lN 10 from rfl, pk_lRem (by omega) (by decide) (by decide), lN_i]
      exact nI_add 48 (v / 10 ^ (e + 1) % 10)
    obtain ⟨g2, b1, b2, b3⟩ := ih fu (P ++ [48 + v / 10 ^ (e + 1) % 10]) g1 (by omega) (by omega) a2 (by rw [List.length_append]; simp only [List.length_singleton]; omega)
    refine ⟨g2, ?_, by rw [List.append_assoc] at b2; exact b2, a3.trans b3⟩
    have hne : ¬ lN (10 ^ (e + 1)) = 0 := fun z => by
      have := (pk_lEQ (b := 0) (c0 _ (by omega)) (by decide)).mp z; omega
    have hgt : ¬ lg_cmp (lN (10 ^ (e + 1))) 0 ≤ 0 := fun z => by
      rw [lg_cmp_le] at z
      have := (pk_lLE (b := 0) (c0 _ (by omega)) (by decide)).mp z; omega
    have hdv : lN (10 ^ (e + 1)) / (10 : Int64) = lN (10 ^ e) := by
      rw [show (10 : Int64) = lN 10 from rfl, pk_lDiv (c0 _ (by omega)) (by decide) (by decide), Nat.pow_succ, Nat.mul_div_cancel _ (by omega)]
    rw [f_X11_printsNumber_l21, if_neg hgt, grd_t hne, hq, a1, bnd_s, hdv]
    exact b1
theorem m_num2 {v : Nat} {g : Mem} (hv : v < 10 ^ 17) (h1 : 1 ≤ v) : ∀ (d j fu : Nat), d = lg10 v - j → j ≤ lg10 v → d < fu → f_X11_printsNumber_l2 n Z m fu (lN v) (lN (10 ^ j)) g = f_X11_printsNumber_l21 n Z m n (lN v) (lN (10 ^ lg10 v)) g := by
  obtain ⟨l1, l2, l3⟩ := lg10_ok hv
  have l2 := l2 h1
  have c0 : ∀ e, e < 18 → 10 ^ e < 2 ^ 63 := fun e he => by
    have : 10 ^ e ≤ 10 ^ 17 := Nat.pow_le_pow_right (by omega) (by omega)
    omega
  have cmp : ∀ j, j < 18 → (lg_cmp (lN v / lN (10 ^ j)) (9 : Int64) ≤ 0 ↔ v < 10 ^ (j + 1)) := fun j hj => by
    have hp : 0 < 10 ^ j := Nat.pow_pos (by omega)
    have hle : v / 10 ^ j ≤ v := Nat.div_le_self ..
    rw [lg_cmp_le, pk_lDiv (by omega) hp (c0 _ hj), show (9 : Int64) = lN 9 from rfl, pk_lLE (by omega) (by decide), Nat.pow_succ, Nat.mul_comm (10 ^ j) 10, ← Nat.div_lt_iff_lt_mul hp]
    omega
  have ne : ∀ j, j < 18 → ¬ lN (10 ^ j) = 0 := fun j hj z => by
    have hp : 0 < 10 ^ j := Nat.pow_pos (by omega)
    have := (pk_lEQ (b := 0) (c0 _ hj) (by decide)).mp z; omega
  intro d
  induction d with
  | zero =>
    intro j fu h2 h3 h4
    obtain ⟨fu, rfl⟩ : ∃ q, fu = q + 1 := ⟨fu - 1, by omega⟩
    have hj : j = lg10 v := by omega
    subst hj
    rw [f_X11_printsNumber_l2, grd_t (ne _ (by omega)), if_pos ((cmp _ (by omega)).mpr l1)]
  | succ d ih =>
    intro j fu h2 h3 h4
    obtain ⟨fu, rfl⟩ : ∃ q, fu = q + 1 := ⟨fu - 1, by omega⟩
    have hle : 10 ^ (j + 1) ≤ 10 ^ lg10 v := Nat.pow_le_pow_right (by omega) (by omega)
    rw [f_X11_printsNumber_l2, grd_t (ne _ (by omega)), if_neg (fun z => by have := (cmp _ (by omega)).mp z; omega), show lN (10 ^ j) * (10 : Int64) = lN (10 ^ (j + 1)) from lN_mul (10 ^ j) 10]
    exact ih (j + 1) fu (by omega) (by omega) (by omega)
theorem m_num {v : Nat} {P : List Nat} {g : Mem} (hn : 100 ≤ n) (hM : MZ Z m) (hv : v < 10 ^ 17) (h1 : 1 ≤ v) (h : PrM g m P) (hl : P.length + (numP v).length ≤ 3000) : ∃ g', f_X11_printsNumber n Z m (lN v) g = some ((), g') ∧ PrM g' m (P ++ numP v) ∧ Ch (pPr m) g g' := by
  obtain ⟨l1, l2, l3⟩ := lg10_ok hv
  unfold numP at hl ⊢
  rw [digL_len] at hl
  obtain ⟨g', a1, a2, a3⟩ := m_num21 (n := n) hM hv (lg10 v) n P g (by omega) (by omega) h hl
  refine ⟨g', ?_, a2, a3⟩
  unfold f_X11_printsNumber
  rw [grd_t hM.k]
  exact (m_num2 (n := n) hv h1 (lg10 v) 0 n (by omega) (by omega) (by omega)).trans a1
theorem MIs.pr {g g' : Mem} {R : Nat} {xs : Pol} (h : MIs g m R xs) (hF : Ch (pPr m) g g') : MIs g' m R xs := h.ch hF fun b j q => by unfold pT at q; unfold pPr; omega
theorem m_tags {zs : Pol} {j : Nat} (hn : 100 ≤ n) (hM : MZ Z m) (hj : j < zs.length) : ∀ (d fu : Nat) (P : List Nat) (g : Mem), d ≤ 16 → d < fu → MIs g m 416 zs → PrM g m P → P.length + (tagsR (zs.getD j (0, 0)).1 d).length ≤ 3000 → ∃ g', f_X11_printsTerm_l31 n Z m fu (nI j) (nI (16 - d)) g = some ((), g') ∧ PrM g' m (P ++ tagsR (zs.getD j (0, 0)).1 d) ∧ Ch (pPr m) g g' := by
  obtain ⟨x, hx⟩ : ∃ x, x = (zs.getD j (0, 0)).1 := ⟨_, rfl⟩
  rw [← hx]
  intro d
  induction d with
  | zero =>
    intro fu P g h1 h2 h6 h3 h4
    obtain ⟨fu, rfl⟩ : ∃ q, fu = q + 1 := ⟨fu - 1, by omega⟩
    refine ⟨g, ?_, by show PrM g m (P ++ []); rw [List.append_nil]; exact h3, Ch.rfl⟩
    unfold f_X11_printsTerm_l31
    rw [if_pos (show (16 : Int32) ≤ nI (16 - 0) by decide)]
  | succ d ih =>
    intro fu P g h1 h2 h6 h3 h4
    obtain ⟨fu, rfl⟩ : ∃ q, fu = q + 1 := ⟨fu - 1, by omega⟩
    have h32 := h6.2.1
    obtain ⟨t, ht⟩ : ∃ t, t = 15 - d := ⟨_, rfl⟩
    have e1 : 16 - (d + 1) = t := by omega
    have e2 : 16 - d = t + 1 := by omega
    have ht16 : t < 16 := by omega
    have he := ex_lt x t
    have h4 : P.length + (tagP x t ++ tagsR x d).length ≤ 3000 := by rw [ht]; exact h4
    rw [List.length_append] at h4
    have hgoal : tagsR x (d + 1) = tagP x t ++ tagsR x d := by rw [ht]; rfl
    rw [hgoal, e1]
    have key : ∃ g1, f_X11_printsTerm_l31 n Z m (fu + 1) (nI j) (nI t) g = f_X11_printsTerm_l31 n Z m fu (nI j) (nI (t + 1)) g1 ∧ PrM g1 m (P ++ tagP x t) ∧ Ch (pPr m) g g1 := by
      have hmx := (m_mon h6 hj).1
      rw [show 32 * 416 = 13312 from rfl, ← hx] at hmx
      rw [f_X11_printsTerm_l31, if_neg (show ¬ (16 : Int32) ≤ nI t from ge_n (N := 16) (by omega) ht16), hM.f22, drf_s, grd_t hM.k22, hM.l22, ix416, grd_t (by rw [inr_eq (by omega)]; omega), clamp (by omega), hmx, m_exp ht16, bnd_s]
      have tail : ∀ (Q : List Nat) (gq : Mem), PrM gq m Q → Q.length + (if ex x t ≤ 1 then [] else 94 :: numP (ex x t)).length ≤ 3000 → ∃ g1, f_X11_printsTerm_l64 n Z (fun y0 y1 y => f_X11_printsTerm_l31 n Z m fu y0 y1 y) m (nI j) (nI t) (nI (ex x t)) gq = f_X11_printsTerm_l31 n Z m fu (nI j) (nI (t + 1)) g1 ∧ PrM g1 m (Q ++ if ex x t ≤ 1 then [] else 94 :: numP (ex x t)) ∧ Ch (pPr m) gq g1 := fun Q gq hq hql => by
        unfold f_X11_printsTerm_l64
        by_cases q1 : ex x t ≤ 1
        · rw [if_pos (show nI (ex x t) ≤ (1 : Int32) from (nle (b := 1) (by omega) (by omega)).mpr q1), if_pos q1, nI_1, List.append_nil]
          exact ⟨gq, rfl, hq, Ch.rfl⟩
        · rw [if_neg q1] at hql ⊢
          rw [List.length_cons] at hql
          obtain ⟨g1, a1, a2, a3⟩ := m_put (n := n) (x := 94) hM hq (by omega)
          obtain ⟨g2, b1, b2, b3⟩ := m_num (n := n) (v := ex x t) hn hM (by omega) (by omega) a2 (by rw [List.length_append]; simp only [List.length_singleton]; omega)
          rw [if_neg (show ¬ nI (ex x t) ≤ (1 : Int32) from fun z => q1 ((nle (b := 1) (by omega) (by omega)).mp z)), show f_X11_prints n Z m (94 : Int32) gq = _ from a1, bnd_s, nI_l (by omega), b1, bnd_s, nI_1]
          rw [List.append_assoc] at b2
          exact ⟨g2, rfl, b2, a3.trans b3⟩
      unfold tagP at h4 ⊢
      rw [List.length_append] at h4
      by_cases q0 : ex x t = 0
      · rw [if_pos q0, List.nil_append, if_pos (show nI (ex x t) ≤ (0 : Int32) by rw [q0]; decide)]
        exact tail P g h3 (by rw [if_pos q0] at h4; simp only [List.length_nil] at h4; omega)
      · rw [if_neg q0] at h4 ⊢
        simp only [List.length_singleton] at h4
        obtain ⟨g1, a1, a2, a3⟩ := m_put (n := n) (x := 97 + t) hM h3 (by omega)
        obtain ⟨g2, b1, b2, b3⟩ := tail (P ++ [97 + t]) g1 a2 (by rw [List.length_append]; simp only [List.length_singleton]; omega)
        rw [if_neg (nI_nle (by omega) (by omega)), show (97 : Int32) + nI t = nI (97 + t) from nI_add 97 t, a1, bnd_s, b1]
        rw [List.append_assoc] at b2
        exact ⟨g2, rfl, b2, a3.trans b3⟩
    obtain ⟨g1, k1, k2, k3⟩ := key
    obtain ⟨g2, l1, l2, l3⟩ := ih fu (P ++ tagP x t) g1 (by omega) (by omega) (h6.pr k3) k2 (by rw [List.length_append]; omega)
    refine ⟨g2, ?_, by rw [← List.append_assoc]; exact l2, k3.trans l3⟩
    rw [k1, ← e2]; exact l1
theorem m_term {zs : Pol} {j : Nat} {P : List Nat} {g : Mem} (hn : 100 ≤ n) (hM : MZ Z m) (hj : j < zs.length) (hb : BrT (zs.getD j (0, 0))) (h6 : MIs g m 416 zs) (h : PrM g m P) (hl : P.length + (termP (zs.getD j (0, 0))).length ≤ 3000) : ∃ g', f_X11_printsTerm n Z m (nI j) g = some ((), g') ∧ PrM g' m (P ++ termP (zs.getD j (0, 0))) ∧ Ch (pPr m) g g' := by
  have h32 := h6.2.1
  have hb2 := hb.2
  have hmx := (m_mon h6 hj).2
  rw [show 32 * 416 = 13312 from rfl] at hmx
  have hcmp : lg_cmp (zs.getD j (0, 0)).2 (1 : Int64) ≤ 0 ↔ uN (zs.getD j (0, 0)).2 ≤ 1 := by
    rw [lg_cmp_le]
    have : (zs.getD j (0, 0)).2 = lN (uN (zs.getD j (0, 0)).2) := lN_uN
    rw [this, show (1 : Int64) = lN 1 from rfl, pk_lLE (by omega) (by decide), ← this]
  unfold termP at hl ⊢
  rw [List.length_append] at hl
  unfold f_X11_printsTerm
  rw [grd_t hM.k, hM.f23, drf_s, grd_t hM.k23, hM.l23, ix416, grd_t (by rw [inr_eq (by omega)]; omega)]
  have hcl : (nI (13312 + j)).toNatClampNeg = 13312 + j := clamp (by omega)
  simp only [hcl]
  rw [hmx]
  by_cases q : uN (zs.getD j (0, 0)).2 ≤ 1
  · rw [if_pos q] at hl ⊢
    rw [if_pos (hcmp.mpr q), List.nil_append]
    simp only [List.length_nil] at hl
    exact m_tags (n := n) hn hM hj 16 n P g (Nat.le_refl _) (by omega) h6 h (by omega)
  · rw [if_neg q] at hl ⊢
    rw [if_neg (fun z => q (hcmp.mp z)), drf_s, grd_t hM.k23, hM.l23, grd_t (by rw [inr_eq (by omega)]; omega), hmx]
    obtain ⟨g1, a1, a2, a3⟩ := m_num (n := n) (v := uN (zs.getD j (0, 0)).2) hn hM (by omega) (by omega) h (by omega)
    rw [← lN_uN] at a1
    obtain ⟨g2, b1, b2, b3⟩ := m_tags (n := n) hn hM hj 16 n (P ++ numP (uN (zs.getD j (0, 0)).2)) g1 (Nat.le_refl _) (by omega) (h6.pr a3) a2 (by rw [List.length_append]; omega)
    rw [a1, bnd_s, show (0 : Int32) = nI (16 - 16) from rfl, b1]
    rw [List.append_assoc] at b2
    exact ⟨g2, rfl, b2, a3.trans b3⟩
theorem m_print33 {zs : Pol} (hn : 100 ≤ n) (hM : MZ Z m) (hb : ∀ a ∈ zs, BrT a) : ∀ (d fu : Nat) (P : List Nat) (g : Mem), d ≤ zs.length → d < fu → MIs g m 416 zs → PrM g m P → P.length + (polR zs d).length ≤ 3000 → ∃ g', f_X11_print_l33 n Z m fu (nI (zs.length - d)) g = some (nI (P ++ polR zs d).length, g') ∧ PrM g' m (P ++ polR zs d) ∧ Ch (pPr m) g g' := by
  have c416 : (416 : Int32).toNatClampNeg = 416 := by decide
  intro d
  induction d with
  | zero =>
    intro fu P g h1 h2 h3 h4 h5
    obtain ⟨fu, rfl⟩ : ∃ q, fu = q + 1 := ⟨fu - 1, by omega⟩
    have h32 := h3.2.1
    have e : P ++ polR zs 0 = P := List.append_nil P
    rw [e]
    refine ⟨g, ?_, h4, Ch.rfl⟩
    unfold f_X11_print_l33
    rw [hM.f21, drf_s, grd_t hM.k21, hM.l21, grd_t (show inr (416 : Int32) 448 by decide), c416, h3.1, if_pos ((nle (by omega) (by omega)).mpr (by omega)), h4.1]
  | succ d ih =>
    intro fu P g h1 h2 h3 h4 h5
    obtain ⟨fu, rfl⟩ : ∃ q, fu = q + 1 := ⟨fu - 1, by omega⟩
    have h32 := h3.2.1
    obtain ⟨j, hj⟩ : ∃ j, j = zs.length - (d + 1) := ⟨_, rfl⟩
    have hj2 : j < zs.length := by omega
    have e2 : zs.length - d = j + 1 := by omega
    have hg : polR zs (d + 1) = (if j = 0 then [] else [43]) ++ termP (zs.getD j (0, 0)) ++ polR zs d := by rw [hj]; rfl
    rw [hg] at h5 ⊢
    rw [← hj]
    rw [List.length_append, List.length_append] at h5
    have hbr := hb _ (getD_mem (d := (0, 0)) hj2)
    have body : ∀ (Q : List Nat) (gq : Mem), MIs gq m 416 zs → PrM gq m Q → Q.length + (termP (zs.getD j (0, 0))).length + (polR zs d).length ≤ 3000 → ∃ g', f_X11_print_l55 n Z (fun y0 y => f_X11_print_l33 n Z m fu y0 y) m (nI j) gq = some (nI (Q ++ termP (zs.getD j (0, 0)) ++ polR zs d).length, g') ∧ PrM g' m (Q ++ termP (zs.getD j (0, 0)) ++ polR zs d) ∧ Ch (pPr m) gq g' := fun Q gq q1 q2 q3 => by
      obtain ⟨g1, a1, a2, a3⟩ := m_term (n := n) hn hM hj2 hbr q1 q2 (by omega)
      obtain ⟨g2, b1, b2, b3⟩ := ih fu (Q ++ termP (zs.getD j (0, 0))) g1 (by omega) (by omega) (q1.pr a3) a2 (by rw [List.length_append]; omega)
      refine ⟨g2, ?_, b2, a3.trans b3⟩
      unfold f_X11_print_l55
      rw [a1, bnd_s, nI_1, ← e2]
      exact b1
    unfold f_X11_print_l33
    rw [hM.f21, drf_s, grd_t hM.k21, hM.l21, grd_t (show inr (416 : Int32) 448 by decide), c416, h3.1, if_neg (ge_n (by omega) hj2)]
    by_cases q0 : j = 0
    · rw [if_pos q0, List.nil_append, if_pos (show nI j ≤ (0 : Int32) by rw [q0]; decide), ← List.append_assoc]
      exact body P g h3 h4 (by rw [if_pos q0] at h5; simp only [List.length_nil] at h5; omega)
    · rw [if_neg q0] at h5 ⊢
      simp only [List.length_singleton] at h5
      obtain ⟨g1, a1, a2, a3⟩ := m_put (n := n) (x := 43) hM h4 (by omega)
      obtain ⟨g2, b1, b2, b3⟩ := body (P ++ [43]) g1 (h3.pr a3) a2 (by rw [List.length_append]; simp only [List.length_singleton]; omega)
      rw [if_neg (nI_nle (by omega) (by omega)), show f_X11_prints n Z m (43 : Int32) g = _ from a1, bnd_s, b1]
      have e3 : P ++ ([43] ++ termP (zs.getD j (0, 0)) ++ polR zs d) = P ++ [43] ++ termP (zs.getD j (0, 0)) ++ polR zs d := by simp only [List.append_assoc]
      rw [e3]
      exact ⟨g2, rfl, b2, a3.trans b3⟩
theorem a_print {c : Nat} {g : Mem} (hn : 500 ≤ n) (hC : CZ Z c) (hM : MZ Z m) (hd : c + 1462 ≤ m) (x1 x2 : Int32) (h : LInv c m g) : Agree c m (f_X10_print n Z c x1 x2) (f_X11_print n Z m x1 x2) g := by
  obtain ⟨b, hb, len, T, P, v, hP, hc, hm⟩ := h
  obtain ⟨p1, p2, p3, p4, p5⟩ := id hP
  obtain ⟨q, q1, q2, q3, q4, q5, q6, q7⟩ := c_row (n := n) hC hc.2.2.2.2.2 x1
  have h32 := (hP.2.2.2.1.good hP.1.1).2.2.2.2.1
  rcases q7 with ⟨q7, q8, q9⟩ | ⟨k, hk, rfl, q8, q9, a, z1, z2, z3, z4, z5⟩
  · obtain ⟨g', a1, a2, a26, a3, a4⟩ := m_row (n := n) hn hM hP.1.1 hP.2.2.2.1 hm x1
    rcases a4 with ⟨_, a5⟩ | ⟨k, hk, rfl, -⟩
    · refine agree_of (r := -1) hd hP ?_ hc ?_ a1 a3
      · unfold f_X10_print; rw [grd_t hC.k, hC.f7, drf_s, q4, bnd_s, drf_s, q9, bnd_s, if_pos rfl]
      · unfold f_X11_print; rw [grd_t hM.k, a5, bnd_s, if_pos rfl]
    · exact absurd q7 fun z => nI_cases (j := 0) hk (by omega) z
  rcases c_isForm (n := n) (Z := Z) x2 with ⟨_, f1, f2⟩ | ⟨f, hf, rfl, f1, f2⟩
  · obtain ⟨g', a1, a2, a26, a3, a4⟩ := m_row (n := n) hn hM hP.1.1 hP.2.2.2.1 hm (nI k)
    rcases a4 with ⟨a5, _⟩ | ⟨k', hk', e, a5, a6, a7⟩
    · exact absurd a5 fun z => nI_cases (j := 0) hk (by omega) z
    refine agree_of (r := -2) hd hP ?_ hc ?_ a1 a3
    · unfold f_X10_print; rw [grd_t hC.k, hC.f7, drf_s, q4, bnd_s, drf_s, z1, bnd_s, if_neg (by simp), f1, bnd_s, if_pos rfl]
    · unfold f_X11_print; rw [grd_t hM.k, a5, bnd_s, if_neg i10, f2, bnd_s, if_pos rfl]
  have hlen := polP_len (f := f) p1.1 p4 hk
  have hbr := fin_brief (f := f) p1.1 p4 hk
  obtain ⟨g1, e1, e2, e3⟩ := c_form (n := n) (g := g) (by omega) hC.sh z2 (by omega) hf z3
  have hfl := e2.2.1
  obtain ⟨k1, k2⟩ := l_clear_is (a := c + 53) (g := g1) (c := fun k => ([] : List Nat).getD k 0)
  obtain ⟨g2, l1, l2, l3⟩ := c_print47 (n := n) (by omega) hC hbr (fin f (rowP v k)).length n [] _ (Nat.le_refl _) (by omega) (e2.fr k2 (by omega)) k1 (by rw [List.length_nil, Nat.zero_add]; exact hlen)
  rw [List.nil_append] at l1 l2
  have F2 : Fr c (c + 1462) g g2 := (e3.mono (by omega) (by omega)).trans ((k2.mono (by omega) (by omega)).trans (l3.mono (by omega) (by omega)))
  have hc2 : CInv g2 c b hb len T (polP (fin f (rowP v k))) v := by
    obtain ⟨y1, ⟨σ, y2⟩, y3, y4, y5, y6⟩ := hc
    exact ⟨((y1.fr e3 (by omega)).fr k2 (by omega)).fr l3 (by omega), ⟨σ, ((y2.fr e3 (by omega)).fr k2 (by omega)).fr l3 (by omega)⟩, ((y3.fr e3 (by omega)).fr k2 (by omega)).fr l3 (by omega), l2, ((y5.fr e3 (by omega)).fr k2 (by omega)).fr l3 (by omega), ((y6.fr e3 (by omega)).fr k2 (by omega)).fr l3 (by omega)⟩
  obtain ⟨g3, a1, a2, a26, a3, a4⟩ := m_row (n := n) hn hM hP.1.1 hP.2.2.2.1 (hm.fr F2 (by omega)) (nI k)
  rcases a4 with ⟨a5, _⟩ | ⟨k', hk', e, a5, a6, a7⟩
  · exact absurd a5 fun z => nI_cases (j := 0) hk (by omega) z
  have hkk : k = k' := (neq (by omega) (by omega)).mp e
  subst hkk
  obtain ⟨g4, m1, m2, m3⟩ := m_form (n := n) (by omega) hM (show k < 32 by omega) hf a6
  obtain ⟨i1, i2⟩ := form_inv a1 a2 a26 m3
  have h0 : PrM (sI g4 m 31 0) m [] := ⟨by rw [gI_sI, if_pos ⟨rfl, rfl⟩]; rfl, fun j hj => absurd hj (Nat.not_lt_zero _)⟩
  have C5 : Ch (pPr m) g4 (sI g4 m 31 0) := Ch.rfl.sI (Or.inl ⟨rfl, rfl⟩)
  obtain ⟨g5, o1, o2, o3⟩ := m_print33 (n := n) (by omega) hM hbr (fin f (rowP v k)).length n [] _ (Nat.le_refl _) (by omega) (m2.pr C5) h0 (by rw [List.length_nil, Nat.zero_add]; show (polP (fin f (rowP v k))).length ≤ 3000; omega)
  rw [List.nil_append] at o1 o2
  have C6 := C5.trans o3
  have hm5 : MInv g5 m b hb len T (polP (fin f (rowP v k))) v := by
    obtain ⟨w1, w2, w3, w4, w5⟩ := i1
    refine ⟨w1.ch C6 fun j => by unfold pPr; omega, w2.ch C6 ⟨by unfold pPr; omega, fun j => by unfold pPr; omega⟩, ⟨(C6.i (by unfold pPr; omega)).trans w3.1, fun j hj => (C6.i (by unfold pPr; omega)).trans (w3.2 j hj)⟩, o2, ?_⟩
    rcases w5 with z | ⟨z, y⟩
    · exact Or.inl ((C6.i (by unfold pPr; omega)).trans z)
    · exact Or.inr ⟨(C6.i (by unfold pPr; omega)).trans z, y.ch C6 fun b j q r => by unfold pQ at q; unfold pPr; omega⟩
  refine agree_of (r := nI (polP (fin f (rowP v k))).length) hd (P := polP (fin f (rowP v k))) ⟨p1, p2, p3, p4, hlen⟩ ?_ hc2 ?_ hm5 (a3.trans (i2.trans (C6.fr fun b j q => by unfold pPr at q; omega)))
  · unfold f_X10_print
    rw [grd_t hC.k, hC.f7, drf_s, q4, bnd_s, drf_s, z1, bnd_s, if_neg (by simp), f1, bnd_s, if_neg i10, hC.f8, drf_s, drf_s, e1, bnd_s, hC.f4, drf_s, l_clear hC.pa, bnd_s]
    rw [Nat.sub_self] at l1
    exact l1
  · unfold f_X11_print
    rw [grd_t hM.k, a5, bnd_s, if_neg i10, f2, bnd_s, if_neg i10, m1, bnd_s]
    rw [Nat.sub_self] at o1
    exact o1
end MPRINT

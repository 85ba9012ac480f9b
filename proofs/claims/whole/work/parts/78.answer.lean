/-! ROWS OF THE ANSWER -/
theorem r_has_out {n : Nat} {Z : Zt} {r w : Nat} {π : Nat → Nat} {g : Mem} {rows : Rws} {x : Int32} (hZ : RZ Z r) (hR : RIs g r w π rows) (hx : x < 0 ∨ nI rows.length ≤ x) : f_X7_hasRow n Z r x g = some (0, g) := by
  unfold f_X7_hasRow
  rw [grd_t hZ.1.k]
  by_cases q : x < 0
  · rw [if_pos q]
  · rw [if_neg q, hR.2.1, if_pos (hx.resolve_left q)]
theorem r_poly_out {n : Nat} {Z : Zt} {r w : Nat} {π : Nat → Nat} {g : Mem} {rows : Rws} {x : Int32} (hZ : RZ Z r) (hR : RIs g r w π rows) (hx : x < 0 ∨ nI rows.length ≤ x) : f_X7_polynomialAt n Z r x g = some (none, g) := by
  unfold f_X7_polynomialAt
  rw [grd_t hZ.1.k, r_has_out hZ hR hx, bnd_s, if_pos rfl]
/-- the polynomial of a row -/
def rowP (v : Vl) (k : Nat) : Pol := (v.2.getD k (0, [])).2
/-- a row of the answer: of the class -/
theorem c_row {n : Nat} {Z : Zt} {c : Nat} {g : Mem} {v : Vl} (hC : CZ Z c) (h : EA g (c + 67) v) (x : Int32) : ∃ q, gP g (c + 67) 2 = some q ∧ c + 69 ≤ q ∧ q + 99 ≤ c + 1455 ∧ f_X0_answer n Z (c + 67) g = some (some q, g) ∧ f_X7_size n Z q g = some (nI v.2.length, g) ∧ f_X7_width n Z q g = some (nI v.1, g) ∧ ((x < 0 ∨ nI v.2.length ≤ x) ∧ f_X7_hasRow n Z q x g = some (0, g) ∧ f_X7_polynomialAt n Z q x g = some (none, g) ∨ ∃ k, k < v.2.length ∧ x = nI k ∧ f_X7_hasRow n Z q x g = some (1, g) ∧ f_X7_keyAt n Z q x g = some (nI (pk (v.2.getD k (0, [])).1), g) ∧ ∃ a, f_X7_polynomialAt n Z q x g = some (some a, g) ∧ PZ Z a ∧ PIs g a (rowP v k) ∧ c + 69 ≤ a ∧ a + 3 ≤ c + 1455) := by
  obtain ⟨q, π, h1, h2, h3, h4, h5⟩ := h.at hC.ev
  have hl := pkR_len v.2
  have h32 := h3.2.2.1
  rw [hl] at h32
  refine ⟨q, h1, by omega, by omega, ?_, by rw [r_size h2 h3, hl], r_width h2 h3, ?_⟩
  · unfold f_X0_answer; rw [grd_t hC.ev.1.1, h1, nam_s]
  rcases pk_ix x (n := v.2.length) (by omega) with z | z | ⟨k, hk, rfl⟩
  · exact Or.inl ⟨Or.inl z, r_has_out h2 h3 (Or.inl z), r_poly_out h2 h3 (Or.inl z)⟩
  · exact Or.inl ⟨Or.inr z, r_has_out h2 h3 (Or.inr (by rw [hl]; exact z)), r_poly_out h2 h3 (Or.inr (by rw [hl]; exact z))⟩
  · have hk' : k < (pkR v.2).length := by rw [hl]; exact hk
    obtain ⟨p1, p2⟩ := h3.pz h2 hk'
    have hP := h3.2.2.2.2.2.2 k hk'
    rw [pkR_pol hk] at hP
    exact Or.inr ⟨k, hk, rfl, r_has h2 h3 hk', by rw [r_key h2 h3 hk', pkR_key hk], _, r_poly h2 h3 hk', p1, hP, by omega, by omega⟩
/-- .. of the reference -/
theorem m_row {n : Nat} {Z : Zt} {m len : Nat} {g : Mem} {b : Nat → Nat} {hb : List (Nat → Nat)} {T : Nat → Nat} {P : List Nat} {v : Vl} (hn : 500 ≤ n) (hM : MZ Z m) (hB : BOk b) (hv : Ans b v) (hm : MInv g m b hb len T P v) (x : Int32) : ∃ g', MInv g' m b hb len T P v ∧ MR g' m 0 v.1 v.2 ∧ gI g' m 26 = 1 ∧ Fr m (m + 21) g g' ∧ ((x < 0 ∨ nI v.2.length ≤ x) ∧ f_X11_isRow n Z m x g = some (0, g') ∨ ∃ k, k < v.2.length ∧ x = nI k ∧ f_X11_isRow n Z m x g = some (1, g') ∧ MIs g' m k (rowP v k) ∧ gI g' (m + 14) k = nI (v.2.getD k (0, [])).1) := by
  obtain ⟨g', a1, a2, a3, a4, a5, a6, a7⟩ := m_rows (n := n) hn hM hB hv hm
  have hE : f_X11_isRow n Z m x g = bnd (f_X11_in n Z x 0 (nI v.2.length - 1) g') fun r8 g9 => grd (isz r8) (some (r8, g9)) := by
    unfold f_X11_isRow
    rw [grd_t hM.k, a1, bnd_s, hM.f19, drf_s, grd_t hM.k19, hM.l19, grd_t (show inr (0 : Int32) 14 by decide), show (0 : Int32).toNatClampNeg = 0 from rfl, a3]
  have h32 := a5.2.2.1
  refine ⟨g', a2, a5, a6, a7, ?_⟩
  by_cases h0 : v.2.length = 0
  · refine Or.inl ⟨?_, ?_⟩
    · rw [h0]
      by_cases q : x < 0
      · exact Or.inl q
      · exact Or.inr (Int32.not_lt.mp q)
    · rw [hE, h0, in_pred0, bnd_s, grd_t (show isz (0 : Int32) by decide)]
  · rcases in_pred (n := n) (Z := Z) (k := v.2.length) (by omega) (by omega) x with ⟨z1, z2⟩ | ⟨j, hj, rfl, z2⟩
    · exact Or.inl ⟨z1, by rw [hE, z2, bnd_s, grd_t (show isz (0 : Int32) by decide)]⟩
    · have hr := a5.2.2.2 j hj
      rw [Nat.mul_zero, Nat.zero_add] at hr
      exact Or.inr ⟨j, hj, rfl, by rw [hE, z2, bnd_s, grd_t (show isz (1 : Int32) by decide)], hr.2.2, hr.1⟩
theorem nI_cases {k j L : Nat} (hk : k < L) (hL : L < 2147483648) (h : nI k < 0 ∨ nI L ≤ nI k) : False := by
  rcases h with z | z
  · rw [not_neg (by omega)] at z; exact z
  · exact ge_n hL hk z
/-! reading a term of the reference -/
theorem m_many {Z : Zt} {m k : Nat} {g : Mem} {xs : Pol} (h : MIs g m k xs) : gI g (m + 15) k = nI xs.length := h.1
theorem m_mon {m k j : Nat} {g : Mem} {xs : Pol} (h : MIs g m k xs) (hj : j < xs.length) : gJ g (m + 16) (32 * k + j) = (xs.getD j (0, 0)).1 ∧ gJ g (m + 17) (32 * k + j) = (xs.getD j (0, 0)).2 := h.2.2 j hj
theorem ix32 (k j : Nat) : ((32 : Int32) * nI k) + nI j = nI (32 * k + j) := by rw [show (32 : Int32) = nI 32 from rfl, mIJ, nI_add]
theorem m_avail {n : Nat} {Z : Zt} {m k j M : Nat} {g : Mem} {xs : Pol} {p : Nat → Bool} (hn : 40 ≤ n) (hM : MZ Z m) (hk : k < 32) (h : MIs g m k xs) (hj : j < xs.length) (hG : BM M p) : f_X11_isAvailable n Z m (nI k) (nI j) (nI M) g = some (if avl p (xs.getD j (0, 0)).1 then 1 else 0, g) := by
  have h32 := h.2.1
  have hlt := hG.1
  have hts := tsN_lt (xs.getD j (0, 0)).1
  have hle : tsN (xs.getD j (0, 0)).1 &&& M ≤ M := Nat.and_le_right
  unfold f_X11_isAvailable
  rw [grd_t hM.k, hM.f22, drf_s, grd_t hM.k22, hM.l22, ix32, grd_t (by rw [inr_eq (by omega)]; omega), clamp (by omega), (m_mon h hj).1, m_setOf hn, bnd_s, and_n (by omega) (by omega)]
  by_cases q : avl p (xs.getD j (0, 0)).1 = true
  · rw [(set_avl hG).mpr q, if_pos (show nI 0 = (0 : Int32) from rfl), if_pos q]
  · rw [if_neg (show ¬ nI (tsN (xs.getD j (0, 0)).1 &&& M) = (0 : Int32) from neI (b := 0) (by omega) (by omega) fun z => q ((set_avl hG).mp z)), if_neg q]
/-- a row is present -/
def prs (p : Nat → Bool) (xs : Pol) : Bool := xs.any fun a => avl p a.1
theorem any_drop {xs : Pol} {p : Nat → Bool} {j : Nat} (hj : j < xs.length) : (xs.drop j).any (fun a => avl p a.1) = (avl p (xs.getD j (0, 0)).1 || (xs.drop (j + 1)).any fun a => avl p a.1) := by
  rw [drop_cons (0, 0) hj]; rfl
/-- the columns of an answer, and its keys -/
theorem vals_vok {b : Nat → Nat} (hB : BOk b) : ∀ {L : List Nd}, (∀ x ∈ L, NOk x) → ∀ i v w, (vals (hV b) dV L).getD i none = some v → (vals (hW b) 0 L).getD i none = some w → v.1 = w ∧ VOk v
  | [], _, i, v, w, h, _ => by simp [vals] at h
  | nd :: L, hn, i + 1, v, w, h, h' => by
    rw [vals, List.getD_cons_succ, drop_get] at h h'
    exact vals_vok hB (fun x hx => hn x (List.mem_cons_of_mem _ hx)) _ v w h h'
  | nd :: L, hn, 0, v, w, h, h' => by
    have ih := vals_vok hB (L := L) (fun x hx => hn x (List.mem_cons_of_mem _ hx))
    have hk := hn nd (List.mem_cons_self ..)
    rw [vals, List.getD_cons_zero] at h h'
    unfold itm at h h'
    rcases ar_cases nd with a | a | a
    · have z := ar0 a
      rw [if_pos a] at h h'
      obtain ⟨f1, f2⟩ := hW_some h'
      obtain ⟨g1, g2⟩ := hV_ok hB hk (f := dV) (s := dV) f1 (fun y => absurd z y) (fun y => by omega) h
      exact ⟨by rw [g1, f2]; rfl, g2⟩
    · have z := ar1 a
      rw [if_neg (by omega), if_pos a] at h h'
      cases hx : (vals (hV b) dV L).getD 0 none with
      | none => rw [hx] at h; cases h
      | some x =>
        cases hy : (vals (hW b) 0 L).getD 0 none with
        | none => rw [hy] at h'; cases h'
        | some y =>
          rw [hx] at h
          rw [hy] at h'
          obtain ⟨i1, i2⟩ := ih 0 x y hx hy
          obtain ⟨f1, f2⟩ := hW_some h'
          rw [← i1] at f1 f2
          obtain ⟨g1, g2⟩ := hV_ok hB hk (f := x) (s := dV) f1 (fun _ => i2) (fun y => by omega) h
          exact ⟨by rw [g1, f2]; rfl, g2⟩
    · have z := ar2 a
      rw [if_neg (by omega), if_neg (by omega)] at h h'
      cases hx : (vals (hV b) dV L).getD 0 none with
      | none => rw [hx] at h; cases h
      | some x =>
        cases hy : (vals (hW b) 0 L).getD 0 none with
        | none => rw [hy] at h'; cases h'
        | some y =>
          rw [hx] at h
          rw [hy] at h'
          cases hu : (vals (hV b) dV L).getD 1 none with
          | none => rw [hu] at h; cases h
          | some u =>
            cases ht : (vals (hW b) 0 L).getD 1 none with
            | none => rw [ht] at h'; cases h'
            | some t =>
              rw [hu] at h
              rw [ht] at h'
              obtain ⟨i1, i2⟩ := ih 0 x y hx hy
              obtain ⟨j1, j2⟩ := ih 1 u t hu ht
              obtain ⟨f1, f2⟩ := hW_some h'
              rw [← i1, ← j1] at f1 f2
              obtain ⟨g1, g2⟩ := hV_ok hB hk (f := x) (s := u) f1 (fun _ => i2) (fun _ => j2) h
              exact ⟨by rw [g1, f2], g2⟩
theorem ans_vok {b : Nat → Nat} {pre : List Nd} {v : Vl} {w : Nat} (hB : BOk b) (hn : ∀ x ∈ pre, NOk x) (hw : qw b pre = some w) (hv : qv b pre = some v) : VOk v := (vals_vok hB hn 0 v w hv hw).2
theorem m_pres5 {n : Nat} {Z : Zt} {m k M : Nat} {g : Mem} {xs : Pol} {p : Nat → Bool} (hn : 40 ≤ n) (hM : MZ Z m) (hk : k < 32) (h : MIs g m k xs) (hG : BM M p) : ∀ (d j fu : Nat) (w : Bool), d = xs.length - j → j ≤ xs.length → d < fu → f_X11_isPresent_l5 n Z m fu (nI k) (nI M) (if w then 1 else 0) (nI j) g = some (if w || (xs.drop j).any (fun a => avl p a.1) then 1 else 0, g) := by
  have h32 := h.2.1
  intro d
  induction d with
  | zero =>
    intro j fu w h1 h2 h3
    obtain ⟨fu, rfl⟩ : ∃ q, fu = q + 1 := ⟨fu - 1, by omega⟩
    have hj : j = xs.length := by omega
    subst hj
    unfold f_X11_isPresent_l5
    rw [hM.f21, drf_s, grd_t hM.k21, hM.l21, grd_t (by rw [inr_eq (by omega)]; omega), clamp (by omega), h.1, if_pos ((nle (by omega) (by omega)).mpr (Nat.le_refl _)), grd_t (isz_01 w), List.drop_length]
    cases w <;> rfl
  | succ d ih =>
    intro j fu w h1 h2 h3
    obtain ⟨fu, rfl⟩ : ∃ q, fu = q + 1 := ⟨fu - 1, by omega⟩
    have hj : j < xs.length := by omega
    unfold f_X11_isPresent_l5
    rw [hM.f21, drf_s, grd_t hM.k21, hM.l21, grd_t (by rw [inr_eq (by omega)]; omega), clamp (by omega), h.1, if_neg (ge_n (by omega) hj), any_drop hj]
    cases w with
    | true =>
      rw [if_pos rfl, if_neg i10, nI_1]
      have := ih (j + 1) fu true (by omega) (by omega) (by omega)
      rw [if_pos rfl] at this
      rw [this]; simp
    | false =>
      rw [if_neg ff, if_pos rfl, m_avail hn hM hk h hj hG, bnd_s]
      by_cases q : avl p (xs.getD j (0, 0)).1 = true
      · rw [if_pos q, if_neg i10, nI_1]
        have := ih (j + 1) fu true (by omega) (by omega) (by omega)
        rw [if_pos rfl] at this
        rw [this, q]; simp only [Bool.true_or, Bool.or_true]
      · rw [if_neg q, if_pos rfl, nI_1]
        have := ih (j + 1) fu false (by omega) (by omega) (by omega)
        rw [if_neg ff] at this
        rw [this, Bool.eq_false_iff.mpr q]; simp only [Bool.false_or]
theorem m_pres {n : Nat} {Z : Zt} {m k M : Nat} {g : Mem} {xs : Pol} {p : Nat → Bool} (hn : 40 ≤ n) (hM : MZ Z m) (hk : k < 32) (h : MIs g m k xs) (hG : BM M p) : f_X11_isPresent n Z m (nI k) (nI M) g = some (if prs p xs then 1 else 0, g) := by
  have h32 := h.2.1
  unfold f_X11_isPresent
  rw [grd_t hM.k]
  have := m_pres5 (n := n) hn hM hk h hG xs.length 0 n false (by omega) (by omega) (by omega)
  rw [if_neg ff] at this
  rw [show (0 : Int32) = nI 0 from rfl] at this ⊢
  rw [this]; rfl
/-- how many rows are present -/
def cntP (p : Nat → Bool) (rows : Rws) : Nat := rows.countP fun x => prs p x.2
theorem cnt_drop {rows : Rws} {p : Nat → Bool} {j : Nat} (hj : j < rows.length) : cntP p (rows.drop j) = (if prs p (rows.getD j (0, [])).2 then 1 else 0) + cntP p (rows.drop (j + 1)) := by
  unfold cntP
  rw [drop_cons (0, []) hj, List.countP_cons, Nat.add_comm]
theorem m_prows8 {n : Nat} {Z : Zt} {m w M : Nat} {g : Mem} {rows : Rws} {p : Nat → Bool} (hn : 40 ≤ n) (hM : MZ Z m) (h : MR g m 0 w rows) (hG : BM M p) : ∀ (d j fu a : Nat), d = rows.length - j → j ≤ rows.length → d < fu → f_X11_presentRows_l8 n Z m fu (nI M) (nI a) (nI j) g = some (nI (a + cntP p (rows.drop j)), g) := by
  have h32 := h.2.2.1
  intro d
  induction d with
  | zero =>
    intro j fu a h1 h2 h3
    obtain ⟨fu, rfl⟩ : ∃ q, fu = q + 1 := ⟨fu - 1, by omega⟩
    have hj : j = rows.length := by omega
    subst hj
    unfold f_X11_presentRows_l8
    rw [hM.f19, drf_s, grd_t hM.k19, hM.l19, grd_t (show inr (0 : Int32) 14 by decide), show (0 : Int32).toNatClampNeg = 0 from rfl, h.2.1, if_pos ((nle (by omega) (by omega)).mpr (Nat.le_refl _)), List.drop_length]
    rfl
  | succ d ih =>
    intro j fu a h1 h2 h3
    obtain ⟨fu, rfl⟩ : ∃ q, fu = q + 1 := ⟨fu - 1, by omega⟩
    have hj : j < rows.length := by omega
    have hr := (h.2.2.2 j hj).2.2
    rw [Nat.mul_zero, Nat.zero_add] at hr
    unfold f_X11_presentRows_l8
    rw [hM.f19, drf_s, grd_t hM.k19, hM.l19, grd_t (show inr (0 : Int32) 14 by decide), show (0 : Int32).toNatClampNeg = 0 from rfl, h.2.1, if_neg (ge_n (by omega) hj), m_pres hn hM (by omega) hr hG, bnd_s, cnt_drop hj]
    by_cases q : prs p (rows.getD j (0, [])).2 = true
    · rw [if_pos q, if_neg i10, if_pos q, nI_1, nI_1, ih (j + 1) fu (a + 1) (by omega) (by omega) (by omega), Nat.add_assoc]
    · rw [if_neg q, if_pos rfl, if_neg q, show nI a + (0 : Int32) = nI (a + 0) from nI_add a 0, nI_1, ih (j + 1) fu (a + 0) (by omega) (by omega) (by omega), Nat.add_zero, Nat.zero_add]
theorem m_prows {n : Nat} {Z : Zt} {m M len : Nat} {g : Mem} {b : Nat → Nat} {hb : List (Nat → Nat)} {T : Nat → Nat} {P : List Nat} {v : Vl} {p : Nat → Bool} (hn : 500 ≤ n) (hM : MZ Z m) (hB : BOk b) (hv : Ans b v) (hm : MInv g m b hb len T P v) (hG : BM M p) : ∃ g', f_X11_presentRows n Z m (nI M) g = some (nI (cntP p v.2), g') ∧ MInv g' m b hb len T P v ∧ Fr m (m + 21) g g' := by
  obtain ⟨g', a1, a2, a3, a4, a5, a6, a7⟩ := m_rows (n := n) hn hM hB hv hm
  refine ⟨g', ?_, a2, a7⟩
  have h32 := a5.2.2.1
  unfold f_X11_presentRows
  rw [grd_t hM.k, a1, bnd_s]
  have := m_prows8 (n := n) (by omega) hM a5 hG v.2.length 0 n 0 (by omega) (by omega) (by omega)
  rw [Nat.zero_add] at this
  exact this
/-! the class counts -/
theorem c_without {n : Nat} {Z : Zt} {a : Nat} {g : Mem} {xs : Pol} {W : Int64} {p : Nat → Bool} (hZ : PZ Z a) (h : PIs g a xs) (hW : isMask W p) : ∀ (d j fu : Nat), d = xs.length - j → j ≤ xs.length → d < fu → f_X5_hasTermWithout_l2 n Z a fu W (nI j) g = some (if (xs.drop j).any (fun a => avl p a.1) then 1 else 0, g) := by
  have h32 := h.2.1
  intro d
  induction d with
  | zero =>
    intro j fu h1 h2 h3
    obtain ⟨fu, rfl⟩ : ∃ q, fu = q + 1 := ⟨fu - 1, by omega⟩
    have hj : j = xs.length := by omega
    subst hj
    unfold f_X5_hasTermWithout_l2
    rw [h.1, if_pos ((nle (by omega) (by omega)).mpr (Nat.le_refl _)), List.drop_length]; rfl
  | succ d ih =>
    intro j fu h1 h2 h3
    obtain ⟨fu, rfl⟩ : ∃ q, fu = q + 1 := ⟨fu - 1, by omega⟩
    have hj : j < xs.length := by omega
    unfold f_X5_hasTermWithout_l2
    rw [h.1, if_neg (ge_n (by omega) hj), p_mono hZ h hj, bnd_s, any_drop hj]
    by_cases q : avl p (xs.getD j (0, 0)).1 = true
    · rw [if_pos ((lg_cmp_eq _ _).mpr ((mask_avl hW).mpr q)), q, Bool.true_or, if_pos rfl]
    · rw [if_neg (fun z => q ((mask_avl hW).mp ((lg_cmp_eq _ _).mp z))), nI_1, ih (j + 1) fu (by omega) (by omega) (by omega), Bool.eq_false_iff.mpr q, Bool.false_or]
theorem c_count11 {n : Nat} {Z : Zt} {r w : Nat} {π : Nat → Nat} {g : Mem} {rows : Rws} {W : Int64} {p : Nat → Bool} (hn : 40 ≤ n) (hZ : RZ Z r) (h : RIs g r w π rows) (hW : isMask W p) : ∀ (d j fu a : Nat), d = rows.length - j → j ≤ rows.length → d < fu → f_X7_countPresent_l11 n Z r fu W (nI a) (nI j) g = some (nI (a + cntP p (rows.drop j)), g) := by
  have h32 := h.2.2.1
  intro d
  induction d with
  | zero =>
    intro j fu a h1 h2 h3
    obtain ⟨fu, rfl⟩ : ∃ q, fu = q + 1 := ⟨fu - 1, by omega⟩
    have hj : j = rows.length := by omega
    subst hj
    unfold f_X7_countPresent_l11
    rw [h.2.1, if_pos ((nle (by omega) (by omega)).mpr (Nat.le_refl _)), List.drop_length]; rfl
  | succ d ih =>
    intro j fu a h1 h2 h3
    obtain ⟨fu, rfl⟩ : ∃ q, fu = q + 1 := ⟨fu - 1, by omega⟩
    have hj : j < rows.length := by omega
    obtain ⟨p1, p2⟩ := h.pz hZ hj
    have hP := h.2.2.2.2.2.2 j hj
    have hpl := hP.2.1
    have hwo : f_X5_hasTermWithout n Z (r + 3 + 3 * π j) W g = some (if prs p (rows.getD j (0, [])).2 then 1 else 0, g) := by
      unfold f_X5_hasTermWithout
      rw [grd_t p1.1]
      exact c_without p1 hP hW _ 0 n rfl (Nat.zero_le _) (by omega)
    unfold f_X7_countPresent_l11
    rw [h.2.1, if_neg (ge_n (by omega) hj), r_poly hZ h hj, bnd_s, if_neg (by simp), drf_s, hwo, bnd_s, cnt_drop hj]
    by_cases q : prs p (rows.getD j (0, [])).2 = true
    · rw [if_pos q, if_neg i10, if_pos q, nI_1, nI_1, ih (j + 1) fu (a + 1) (by omega) (by omega) (by omega), Nat.add_assoc]
    · rw [if_neg q, if_pos rfl, if_neg q, nI_1, ih (j + 1) fu a (by omega) (by omega) (by omega), Nat.zero_add]
theorem cntP_pk (p : Nat → Bool) (rows : Rws) : cntP p (pkR rows) = cntP p rows := by
  unfold cntP pkR
  rw [List.countP_map]; rfl
theorem c_count {n : Nat} {Z : Zt} {r w M : Nat} {π : Nat → Nat} {g : Mem} {rows : Rws} {p : Nat → Bool} (hn : 40 ≤ n) (hZ : RZ Z r) (h : RIs g r w π (pkR rows)) (hG : BM M p) : f_X7_countPresent n Z r (nI M) g = some (nI (cntP p rows), g) := by
  obtain ⟨W, w1, w2⟩ := c_maskOf (n := n) (Z := Z) (g := g) hn hG
  have h32 := h.2.2.1
  unfold f_X7_countPresent
  rw [grd_t hZ.1.k, w1, bnd_s]
  have := c_count11 (n := n) hn hZ h w2 (pkR rows).length 0 n 0 (by omega) (by omega) (by omega)
  rw [Nat.zero_add, List.drop_zero, cntP_pk] at this
  exact this
section ANSWER
variable {n : Nat} {Z : Zt} {c m : Nat} {g : Mem}
theorem a_answerValue (hn : 500 ≤ n) (hC : CZ Z c) (hM : MZ Z m) (hd : c + 1462 ≤ m) (x1 x2 : Int32) (h : LInv c m g) : Agree c m (f_X10_answerValue n Z c x1 x2) (f_X11_answerValue n Z m x1 x2) g := by
  obtain ⟨b, hb, len, T, P, v, hP, hc, hm⟩ := h
  obtain ⟨g', a1, a2, a26, a3, a4⟩ := m_row (n := n) hn hM hP.1.1 hP.2.2.2.1 hm x1
  obtain ⟨q, q1, q2, q3, q4, q5, q6, q7⟩ := c_row (n := n) hC hc.2.2.2.2.2 x1
  have hC2 : f_X10_answerValue n Z c x1 x2 g = bnd (f_X7_hasRow n Z q x1 g) fun r8 g9 => if r8 = 0 then (some ((-1 : Int32), g9)) else (if x2 < 0 then (some ((-1 : Int32), g9)) else (bnd (f_X7_width n Z q g9) (fun r13 g14 => if x2 < r13 then (bnd (f_X7_keyAt n Z q x1 g14) (fun r17 g18 => bnd (f_X7_width n Z q g18) (fun r20 g21 => bnd (f_X2_digit n Z r17 r20 x2 g21) (fun r23 g24 => some (r23, g24))))) else (some ((-1 : Int32), g14))))) := by
    unfold f_X10_answerValue; rw [grd_t hC.k, hC.f7, drf_s, q4, bnd_s, drf_s]
  have hgd := hP.2.2.2.1.good hP.1.1
  have h32 := hgd.2.2.2.2.1
  rcases q7 with ⟨q7, q8, q9⟩ | ⟨k, hk, rfl, q8, q9, -⟩
  · rcases a4 with ⟨_, a5⟩ | ⟨k, hk, rfl, -⟩
    · refine agree_of (r := -1) hd hP ?_ hc ?_ a1 a3
      · rw [hC2, q8, bnd_s, if_pos rfl]
      · unfold f_X11_answerValue; rw [grd_t hM.k, a5, bnd_s, if_pos rfl]
    · exact absurd q7 fun z => nI_cases (j := 0) hk (by omega) z
  rcases a4 with ⟨a5, _⟩ | ⟨k', hk', e, a5, a6, a7⟩
  · exact absurd a5 fun z => nI_cases (j := 0) hk (by omega) z
  have hkk : k = k' := (neq (by omega) (by omega)).mp e
  subst hkk
  -- the answer has columns: a query
  have hVO : VOk v := by
    rcases hP.2.2.2.1 with ⟨_, z⟩ | ⟨z1, pre, w, z2, z3, z4⟩
    · rw [z] at hk; exact absurd hk (Nat.not_lt_zero _)
    · obtain ⟨k1, k2, k3⟩ := z2.ok hP.1.1
      exact ans_vok hP.1.1 k2 z3 z4
  obtain ⟨w1, w2, w3⟩ := hVO
  have hkey := (w3 _ (getD_mem (d := (0, [])) hk))
  have hp4 : 10 ^ v.1 ≤ 10 ^ 4 := Nat.pow_le_pow_right (by omega) w2
  have hM2 : f_X11_answerValue n Z m (nI k) x2 g = bnd (f_X11_in n Z x2 (0 : Int32) (nI v.1 - (1 : Int32)) g') (fun r9 g10 => if r9 = 0 then (some ((-1 : Int32), g10)) else (drf (zf Z m 20) (fun b13 => grd (zk Z b13 = 12) (grd (inr (nI k) (zl Z b13)) (drf (zf Z m 18) (fun b17 => grd (zk Z b17 = 12) (grd (inr (0 : Int32) (zl Z b17)) (bnd (f_X11_digit n Z (gI g10 b13 (nI k).toNatClampNeg) (gI g10 b17 (0 : Int32).toNatClampNeg) x2 g10) (fun r21 g22 => some (r21, g22)))))))))) := by
    unfold f_X11_answerValue
    rw [grd_t hM.k, a5, bnd_s, if_neg i10, hM.f18, drf_s, grd_t hM.k18, hM.l18, grd_t (show inr (0 : Int32) 14 by decide)]
    have c0 : (0 : Int32).toNatClampNeg = 0 := rfl
    simp only [c0, a2.1, hM.f18]
  rcases in_pred (n := n) (Z := Z) (k := v.1) (by omega) (by omega) x2 with ⟨z1, z2⟩ | ⟨j, hj, rfl, z2⟩
  · refine agree_of (r := -1) hd hP ?_ hc ?_ a1 a3
    · rw [hC2, q8, bnd_s, if_neg i10]
      by_cases z : x2 < 0
      · rw [if_pos z]
      · rw [if_neg z, q6, bnd_s, if_neg (Int32.not_lt.mpr (z1.resolve_left z))]
    · rw [hM2, z2, bnd_s, if_pos rfl]
  · refine agree_of (r := nI (dg v.1 (v.2.getD k (0, [])).1 j)) hd hP ?_ hc ?_ a1 a3
    · rw [hC2, q8, bnd_s, if_neg i10, if_neg (fun q => by rw [not_neg (by omega)] at q; exact q), q6, bnd_s, if_pos ((nlt (by omega) (by omega)).mpr hj), q9, bnd_s, q6, bnd_s, key_digit (by omega) hj, bnd_s]
    · have e20 : inr (nI k) 448 := by rw [inr_eq (by omega)]; omega
      rw [hM2, z2, bnd_s, if_neg i10, hM.f20, drf_s, grd_t hM.k20, hM.l20, grd_t e20, hM.f18, drf_s, grd_t hM.k18, hM.l18, grd_t (show inr (0 : Int32) 14 by decide), show (0 : Int32).toNatClampNeg = 0 from rfl, clamp (by omega), a7, a2.1, m_digit (by omega) (by omega) (by omega) hj, bnd_s]
end ANSWER

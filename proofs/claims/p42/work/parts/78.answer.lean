/-! ROWS OF THE ANSWER -/
theorem r_has_out {n : Nat} {Z : Zt} {r w : Nat} {π : Nat → Nat} {g : Mem} {rows : Rws} {x : Int32} (hZ : RZ Z r) (hR : RIs g r w π rows) (hx : x < 0 ∨ nI rows.length ≤ x) : f_X7_hasRow n Z r x g = some (0, g) := by
  unfold f_X7_hasRow
  rw [grd_t hZ.1.k]
  by_cases q : x < 0
  · rw [if_pos q]
  · rw [if_neg q, hR.2.1, if_pos (hx.resolve_left q)]
theorem r_poly_out {n : Nat} {Z : Zt} {r w : Nat} {π : Nat → Nat} {g : Mem} {rows : Rws} {x : Int32} (hZ : RZ Z r) (hR : RIs g r w π rows) (hx : x < 0 ∨ nI rows.length ≤ x) : f_X7_polynomialAt n Z r x g = some (none, g) := by
  unfold f_X7_polynomialAt
  rw [grd_t hZ.1.k, r_has_out hZ hR hx, bnd_s, if_pos rfl]
/-- the polynomial of a row -/
def rowP (v : Vl) (k : Nat) : Pol := (v.2.getD k (0, [])).2
/-- a row of the answer: of the class -/
theorem c_row {n : Nat} {Z : Zt} {c : Nat} {g : Mem} {v : Vl} (hC : CZ Z c) (h : EA g (c + 67) v) (x : Int32) : ∃ q, gP g (c + 67) 2 = some q ∧ c + 69 ≤ q ∧ q + 99 ≤ c + 1455 ∧ f_X0_answer n Z (c + 67) g = some (some q, g) ∧ f_X7_size n Z q g = some (nI v.2.length, g) ∧ f_X7_width n Z q g = some (nI v.1, g) ∧ ((x < 0 ∨ nI v.2.length ≤ x) ∧ f_X7_hasRow n Z q x g = some (0, g) ∧ f_X7_polynomialAt n Z q x g = some (none, g) ∨ ∃ k, k < v.2.length ∧ x = nI k ∧ f_X7_hasRow n Z q x g = some (1, g) ∧ f_X7_keyAt n Z q x g = some (nI (pk (v.2.getD k (0, [])).1), g) ∧ ∃ a, f_X7_polynomialAt n Z q x g = some (some a, g) ∧ PZ Z a ∧ PIs g a (rowP v k) ∧ c + 69 ≤ a ∧ a + 3 ≤ c + 1455) := by
  obtain ⟨q, π, h1, h2, h3, h4, h5⟩ := h.at hC.ev
  have hl := pkR_len v.2
  have h32 := h3.2.2.1
  rw [hl] at h32
  refine ⟨q, h1, by omega, by omega, ?_, by rw [r_size h2 h3, hl], r_width h2 h3, ?_⟩
  · unfold f_X0_answer; rw [grd_t hC.ev.1.1, h1, nam_s]
  rcases pk_ix x (n := v.2.length) (by omega) with z | z | ⟨k, hk, rfl⟩
  · exact Or.inl ⟨Or.inl z, r_has_out h2 h3 (Or.inl z), r_poly_out h2 h3 (Or.inl z)⟩
  · exact Or.inl ⟨Or.inr z, r_has_out h2 h3 (Or.inr (by rw [hl]; exact z)), r_poly_out h2 h3 (Or.inr (by rw [hl]; exact z))⟩
  · have hk' : k < (pkR v.2).length := by rw [hl]; exact hk
    obtain ⟨p1, p2⟩ := h3.pz h2 hk'
    have hP := h3.2.2.2.2.2.2 k hk'
    rw [pkR_pol hk] at hP
    exact Or.inr ⟨k, hk, rfl, r_has h2 h3 hk', by rw [r_key h2 h3 hk', pkR_key hk], _, r_poly h2 h3 hk', p1, hP, by omega, by omega⟩
theorem nI_cases {k j L : Nat} (hk : k < L) (hL : L < 2147483648) (h : nI k < 0 ∨ nI L ≤ nI k) : False := by
  rcases h with z | z
  · rw [not_neg (by omega)] at z; exact z
  · exact ge_n hL hk z
/-! reading a term of the reference -/
theorem ix32 (k j : Nat) : ((32 : Int32) * nI k) + nI j = nI (32 * k + j) := by rw [show (32 : Int32) = nI 32 from rfl, mIJ, nI_add]
/-- a row is present -/
def prs (p : Nat → Bool) (xs : Pol) : Bool := xs.any fun a => avl p a.1
theorem any_drop {xs : Pol} {p : Nat → Bool} {j : Nat} (hj : j < xs.length) : (xs.drop j).any (fun a => avl p a.1) = (avl p (xs.getD j (0, 0)).1 || (xs.drop (j + 1)).any fun a => avl p a.1) := by
  rw [drop_cons (0, 0) hj]; rfl
/-- the columns of an answer, and its keys -/
theorem vals_vok {b : Nat → Nat} (hB : BOk b) : ∀ {L : List Nd}, (∀ x ∈ L, NOk x) → ∀ i v w, (vals (hV b) dV L).getD i none = some v → (vals (hW b) 0 L).getD i none = some w → v.1 = w ∧ VOk v
  | [], _, i, v, w, h, _ => by simp [vals] at h
  | nd :: L, hn, i + 1, v, w, h, h' => by
    rw [vals, List.getD_cons_succ, drop_get] at h h'
    exact vals_vok hB (fun x hx => hn x (List.mem_cons_of_mem _ hx)) _ v w h h'
  | nd :: L, hn, 0, v, w, h, h' => by
    have ih := vals_vok hB (L := L) (fun x hx => hn x (List.mem_cons_of_mem _ hx))
    have hk := hn nd (List.mem_cons_self ..)
    rw [vals, List.getD_cons_zero] at h h'
    unfold itm at h h'
    rcases ar_cases nd with a | a | a
    · have z := ar0 a
      rw [if_pos a] at h h'
      obtain ⟨f1, f2⟩ := hW_some h'
      obtain ⟨g1, g2⟩ := hV_ok hB hk (f := dV) (s := dV) f1 (fun y => absurd z y) (fun y => by omega) h
      exact ⟨by rw [g1, f2]; rfl, g2⟩
    · have z := ar1 a
      rw [if_neg (by omega), if_pos a] at h h'
      cases hx : (vals (hV b) dV L).getD 0 none with
      | none => rw [hx] at h; cases h
      | some x =>
        cases hy : (vals (hW b) 0 L).getD 0 none with
        | none => rw [hy] at h'; cases h'
        | some y =>
          rw [hx] at h
          rw [hy] at h'
          obtain ⟨i1, i2⟩ := ih 0 x y hx hy
          obtain ⟨f1, f2⟩ := hW_some h'
          rw [← i1] at f1 f2
          obtain ⟨g1, g2⟩ := hV_ok hB hk (f := x) (s := dV) f1 (fun _ => i2) (fun y => by omega) h
          exact ⟨by rw [g1, f2]; rfl, g2⟩
    · have z := ar2 a
      rw [if_neg (by omega), if_neg (by omega)] at h h'
      cases hx : (vals (hV b) dV L).getD 0 none with
      | none => rw [hx] at h; cases h
      | some x =>
        cases hy : (vals (hW b) 0 L).getD 0 none with
        | none => rw [hy] at h'; cases h'
        | some y =>
          rw [hx] at h
          rw [hy] at h'
          cases hu : (vals (hV b) dV L).getD 1 none with
          | none => rw [hu] at h; cases h
          | some u =>
            cases ht : (vals (hW b) 0 L).getD 1 none with
            | none => rw [ht] at h'; cases h'
            | some t =>
              rw [hu] at h
              rw [ht] at h'
              obtain ⟨i1, i2⟩ := ih 0 x y hx hy
              obtain ⟨j1, j2⟩ := ih 1 u t hu ht
              obtain ⟨f1, f2⟩ := hW_some h'
              rw [← i1, ← j1] at f1 f2
              obtain ⟨g1, g2⟩ := hV_ok hB hk (f := x) (s := u) f1 (fun _ => i2) (fun _ => j2) h
              exact ⟨by rw [g1, f2], g2⟩
theorem ans_vok {b : Nat → Nat} {pre : List Nd} {v : Vl} {w : Nat} (hB : BOk b) (hn : ∀ x ∈ pre, NOk x) (hw : qw b pre = some w) (hv : qv b pre = some v) : VOk v := (vals_vok hB hn 0 v w hv hw).2
/-- how many rows are present -/
def cntP (p : Nat → Bool) (rows : Rws) : Nat := rows.countP fun x => prs p x.2
theorem cnt_drop {rows : Rws} {p : Nat → Bool} {j : Nat} (hj : j < rows.length) : cntP p (rows.drop j) = (if prs p (rows.getD j (0, [])).2 then 1 else 0) + cntP p (rows.drop (j + 1)) := by
  unfold cntP
  rw [drop_cons (0, []) hj, List.countP_cons, Nat.add_comm]
/-! the class counts -/
theorem c_without {n : Nat} {Z : Zt} {a : Nat} {g : Mem} {xs : Pol} {W : Int64} {p : Nat → Bool} (hZ : PZ Z a) (h : PIs g a xs) (hW : isMask W p) : ∀ (d j fu : Nat), d = xs.length - j → j ≤ xs.length → d < fu → f_X5_hasTermWithout_l2 n Z a fu W (nI j) g = some (if (xs.drop j).any (fun a => avl p a.1) then 1 else 0, g) := by
  have h32 := h.2.1
  intro d
  induction d with
  | zero =>
    intro j fu h1 h2 h3
    obtain ⟨fu, rfl⟩ : ∃ q, fu = q + 1 := ⟨fu - 1, by omega⟩
    have hj : j = xs.length := by omega
    subst hj
    unfold f_X5_hasTermWithout_l2
    rw [h.1, if_pos ((nle (by omega) (by omega)).mpr (Nat.le_refl _)), List.drop_length]; rfl
  | succ d ih =>
    intro j fu h1 h2 h3
    obtain ⟨fu, rfl⟩ : ∃ q, fu = q + 1 := ⟨fu - 1, by omega⟩
    have hj : j < xs.length := by omega
    unfold f_X5_hasTermWithout_l2
    rw [h.1, if_neg (ge_n (by omega) hj), p_mono hZ h hj, bnd_s, any_drop hj]
    by_cases q : avl p (xs.getD j (0, 0)).1 = true
    · rw [if_pos ((lg_cmp_eq _ _).mpr ((mask_avl hW).mpr q)), q, Bool.true_or, if_pos rfl]
    · rw [if_neg (fun z => q ((mask_avl hW).mp ((lg_cmp_eq _ _).mp z))), nI_1, ih (j + 1) fu (by omega) (by omega) (by omega), Bool.eq_false_iff.mpr q, Bool.false_or]
theorem c_count11 {n : Nat} {Z : Zt} {r w : Nat} {π : Nat → Nat} {g : Mem} {rows : Rws} {W : Int64} {p : Nat → Bool} (hn : 40 ≤ n) (hZ : RZ Z r) (h : RIs g r w π rows) (hW : isMask W p) : ∀ (d j fu a : Nat), d = rows.length - j → j ≤ rows.length → d < fu → f_X7_countPresent_l11 n Z r fu W (nI a) (nI j) g = some (nI (a + cntP p (rows.drop j)), g) := by
  have h32 := h.2.2.1
  intro d
  induction d with
  | zero =>
    intro j fu a h1 h2 h3
    obtain ⟨fu, rfl⟩ : ∃ q, fu = q + 1 := ⟨fu - 1, by omega⟩
    have hj : j = rows.length := by omega
    subst hj
    unfold f_X7_countPresent_l11
    rw [h.2.1, if_pos ((nle (by omega) (by omega)).mpr (Nat.le_refl _)), List.drop_length]; rfl
  | succ d ih =>
    intro j fu a h1 h2 h3
    obtain ⟨fu, rfl⟩ : ∃ q, fu = q + 1 := ⟨fu - 1, by omega⟩
    have hj : j < rows.length := by omega
    obtain ⟨p1, p2⟩ := h.pz hZ hj
    have hP := h.2.2.2.2.2.2 j hj
    have hpl := hP.2.1
    have hwo : f_X5_hasTermWithout n Z (r + 3 + 3 * π j) W g = some (if prs p (rows.getD j (0, [])).2 then 1 else 0, g) := by
      unfold f_X5_hasTermWithout
      rw [grd_t p1.1]
      exact c_without p1 hP hW _ 0 n rfl (Nat.zero_le _) (by omega)
    unfold f_X7_countPresent_l11
    rw [h.2.1, if_neg (ge_n (by omega) hj), r_poly hZ h hj, bnd_s, if_neg (by simp), drf_s, hwo, bnd_s, cnt_drop hj]
    by_cases q : prs p (rows.getD j (0, [])).2 = true
    · rw [if_pos q, if_neg i10, if_pos q, nI_1, nI_1, ih (j + 1) fu (a + 1) (by omega) (by omega) (by omega), Nat.add_assoc]
    · rw [if_neg q, if_pos rfl, if_neg q, nI_1, ih (j + 1) fu a (by omega) (by omega) (by omega), Nat.zero_add]
theorem cntP_pk (p : Nat → Bool) (rows : Rws) : cntP p (pkR rows) = cntP p rows := by
  unfold cntP pkR
  rw [List.countP_map]; rfl
theorem c_count {n : Nat} {Z : Zt} {r w M : Nat} {π : Nat → Nat} {g : Mem} {rows : Rws} {p : Nat → Bool} (hn : 40 ≤ n) (hZ : RZ Z r) (h : RIs g r w π (pkR rows)) (hG : BM M p) : f_X7_countPresent n Z r (nI M) g = some (nI (cntP p rows), g) := by
  obtain ⟨W, w1, w2⟩ := c_maskOf (n := n) (Z := Z) (g := g) hn hG
  have h32 := h.2.2.1
  unfold f_X7_countPresent
  rw [grd_t hZ.1.k, w1, bnd_s]
  have := c_count11 (n := n) hn hZ h w2 (pkR rows).length 0 n 0 (by omega) (by omega) (by omega)
  rw [Nat.zero_add, List.drop_zero, cntP_pk] at this
  exact this
section ANSWER
variable {n : Nat} {Z : Zt} {c m : Nat} {g : Mem}
end ANSWER

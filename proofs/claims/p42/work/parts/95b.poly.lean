/-! FACTS: every row has a term -/
theorem getD_el {α : Type} {l : List α} {d : α} {k : Nat} (h : k < l.length) : l.getD k d = l[k] := by
  unfold List.getD
  rw [List.getElem?_eq_getElem h]; rfl
def NE (L : Rws) : Prop := ∀ x ∈ L, x.2 ≠ []
theorem ne_of_mon {zs : Pol} {c : Int64} (h : c ∈ mons zs) : zs ≠ [] := fun e => by rw [e] at h; cases h
theorem mon_of_ne {zs : Pol} (h : zs ≠ []) : ∃ c, c ∈ mons zs := by
  cases zs with
  | nil => exact absurd rfl h
  | cons a zs => exact ⟨a.1, List.mem_cons_self ..⟩
theorem pAddL_ne {ys xs zs : Pol} (hx : PSo xs) (h : pAddL xs ys = some zs) (hy : ys ≠ []) : zs ≠ [] := by
  obtain ⟨c, hc⟩ := mon_of_ne hy
  exact ne_of_mon (((pAddL_some hx h).2 c).mpr (Or.inr hc))
theorem rIns_ne {K : Nat} {ys : Pol} {rows rows1 : Rws} (h : RSo rows) (e : rIns K ys rows = some rows1) (hr : NE rows) (hy : ys ≠ []) : NE rows1 := fun y hm => by
  rcases (rIns_mem h e).2.1 y hm with ⟨q, _⟩ | ⟨_, zs0, q1, q2⟩
  · exact hr y q
  · have hs : PSo zs0 := by
      rcases q1 with w | ⟨w, _⟩
      · exact h.2 _ w
      · rw [w]; exact PSo.nil
    exact pAddL_ne hs q2 hy
theorem rAddL_ne : ∀ {L rows r : Rws}, rAddL rows L = some r → RSo rows → NE rows → NE L → NE r
  | [], rows, r, e, h, hr, hL => by cases e; exact hr
  | x :: L, rows, r, e, h, hr, hL => by
    rw [rAddL] at e
    cases hq : rAdd rows x.1 x.2 with
    | none => rw [hq] at e; cases e
    | some rows1 =>
      rw [hq] at e
      have hi := rAdd_some hq
      exact rAddL_ne e (rIns_mem h hi).1 (rIns_ne h hi hr (hL x (List.mem_cons_self ..))) (fun y hy => hL y (List.mem_cons_of_mem _ hy))
theorem tabR_ne {b : Nat → Nat} {t : Nat} : ∀ d, NE (tabR b t d)
  | 0 => fun x hx => by cases hx
  | d + 1 => fun x hx => by
    unfold tabR at hx
    split at hx
    · rcases List.mem_cons.mp hx with z | z
      · rw [z]; exact List.cons_ne_nil _ _
      · exact tabR_ne d x z
    · exact tabR_ne d x hx
theorem opL_ne {b : Nat → Nat} {nd : Nd} {f s : Vl} (hf : nd.1 ≠ 0 → NE f.2) (hs : nd.1 = 4 ∨ nd.1 = 5 → NE s.2) : NE (opL b nd f s) := by
  unfold opL
  by_cases h0 : nd.1 = 0
  · rw [if_pos h0]; exact tabR_ne 16
  rw [if_neg h0]
  by_cases h3 : nd.1 = 3
  · rw [if_pos h3]
    intro x hx
    obtain ⟨y, y1, y2⟩ := List.mem_map.mp hx
    rw [← y2]; exact hf h0 y y1
  rw [if_neg h3]
  by_cases h4 : nd.1 = 4
  · rw [if_pos h4]
    intro z hz
    obtain ⟨x, x1, y, y1, y2, y3⟩ := mem_joinL.mp hz
    obtain ⟨a, ha⟩ := mon_of_ne (hf h0 x x1)
    obtain ⟨d, hd⟩ := mon_of_ne (hs (Or.inl h4) y y1)
    rw [y3]
    exact ne_of_mon (mem_pMulT.mpr ⟨a, ha, d, hd, rfl⟩)
  rw [if_neg h4]
  by_cases h5 : nd.1 = 5
  · rw [if_pos h5]
    intro x hx
    rcases List.mem_append.mp hx with z | z
    · exact hf h0 x z
    · exact hs (Or.inr h5) x z
  rw [if_neg h5]
  intro x hx
  exact hf h0 x (List.mem_filter.mp hx).1
theorem hV_ne {b : Nat → Nat} {nd : Nd} {f s v : Vl} (hf : nd.1 ≠ 0 → NE f.2) (hs : nd.1 = 4 ∨ nd.1 = 5 → NE s.2) (e : hV b nd f s = some v) : NE v.2 := by
  unfold hV at e
  cases h : rAddL [] (opL b nd f s) with
  | none => rw [h] at e; cases e
  | some r =>
    rw [h] at e; cases e
    exact rAddL_ne h RSo.nil (fun x hx => by cases hx) (opL_ne hf hs)
theorem vals_ne {b : Nat → Nat} : ∀ {L : List Nd} (i : Nat) (v : Vl), (vals (hV b) dV L).getD i none = some v → NE v.2
  | [], i, v, h => by simp [vals] at h
  | nd :: L, i + 1, v, h => by
    rw [vals, List.getD_cons_succ, drop_get] at h
    exact vals_ne _ v h
  | nd :: L, 0, v, h => by
    have ih := fun i v h => vals_ne (b := b) (L := L) i v h
    rw [vals, List.getD_cons_zero] at h
    unfold itm at h
    rcases ar_cases nd with a | a | a
    · have z := ar0 a
      rw [if_pos a] at h
      exact hV_ne (f := dV) (s := dV) (fun y => absurd z y) (fun y => by omega) h
    · have z := ar1 a
      rw [if_neg (by omega), if_pos a] at h
      cases hx : (vals (hV b) dV L).getD 0 none with
      | none => rw [hx] at h; cases h
      | some x =>
        rw [hx] at h
        exact hV_ne (f := x) (s := dV) (fun _ => ih 0 x hx) (fun y => by omega) h
    · rw [if_neg (by omega), if_neg (by omega)] at h
      cases hx : (vals (hV b) dV L).getD 0 none with
      | none => rw [hx] at h; cases h
      | some x =>
        rw [hx] at h
        cases hu : (vals (hV b) dV L).getD 1 none with
        | none => rw [hu] at h; cases h
        | some u =>
          rw [hu] at h
          exact hV_ne (f := x) (s := u) (fun _ => ih 0 x hx) (fun _ => ih 1 u hu) h
theorem Ans.ne {b : Nat → Nat} {v : Vl} (h : Ans b v) : NE v.2 := by
  rcases h with ⟨_, y⟩ | ⟨z1, pre, w, z2, z3, z4⟩
  · rw [y]; exact fun x hx => by cases hx
  · exact vals_ne 0 v z4
/-! FACTS: forms -/
theorem PSo.get {zs : Pol} (h : PSo zs) {k : Nat} (hk : k + 1 < zs.length) : uN (zs.getD (k + 1) (0, 0)).1 < uN (zs.getD k (0, 0)).1 := by
  have := List.pairwise_iff_getElem.mp h k (k + 1) (by omega) hk (by omega)
  rw [getD_el hk, getD_el (show k < zs.length by omega)]
  exact this
theorem pIns_ne {m f : Int64} : ∀ {xs : Pol}, pIns m f xs ≠ []
  | [] => List.cons_ne_nil _ _
  | x :: xs => by
    unfold pIns
    split
    · exact List.cons_ne_nil _ _
    · split
      · exact List.cons_ne_nil _ _
      · exact List.cons_ne_nil _ _
theorem frm_ne {f : Nat} : ∀ {xs s : Pol}, (xs ≠ [] ∨ s ≠ []) → xs.foldl (addF f) s ≠ []
  | [], s, h => h.resolve_left fun z => z rfl
  | a :: xs, s, _ => frm_ne (xs := xs) (s := addF f s a) (Or.inr pIns_ne)
theorem frm_w {f : Nat} : ∀ {xs s : Pol}, wP s + wP xs < 2 ^ 64 → CP1 s → CP1 xs → wP (xs.foldl (addF f) s) = wP s + wP xs ∧ CP1 (xs.foldl (addF f) s)
  | [], s, _, h, _ => ⟨by simp [wP], h⟩
  | a :: xs, s, h, h1, h2 => by
    have h : wP s + (uN a.2 + wP xs) < 2 ^ 64 := h
    obtain ⟨e1, e2⟩ := wP_ins (m := mF f a.1) (f := a.2) (xs := s) (by omega) h1 (h2 a (List.mem_cons_self ..))
    have e1 : wP (addF f s a) = wP s + uN a.2 := e1
    obtain ⟨i1, i2⟩ := frm_w (f := f) (xs := xs) (s := addF f s a) (by rw [e1]; omega) e2 (fun x hx => h2 x (List.mem_cons_of_mem _ hx))
    refine ⟨?_, i2⟩
    show wP (xs.foldl (addF f) (addF f s a)) = wP s + (uN a.2 + wP xs)
    rw [i1, e1]; omega
theorem oneL_so {zs : Pol} (h : PSo zs) : PSo (oneL zs) := by
  unfold PSo oneL
  rw [List.pairwise_map]
  exact h
theorem kpL_sl {zs : Pol} : ∀ j, j ≤ zs.length → (kpL zs j).Sublist (zs.take j)
  | 0, _ => List.nil_sublist _
  | j + 1, hj => by
    have ih := kpL_sl (zs := zs) j (by omega)
    unfold kpL
    rw [take_succ' (show j < zs.length by omega)]
    split
    · exact ih.trans (List.sublist_append_left _ _)
    · exact List.Sublist.append ih (List.Sublist.refl _)
theorem kpL_all {zs : Pol} : (kpL zs zs.length).Sublist zs := by
  have := kpL_sl (zs := zs) zs.length (Nat.le_refl _)
  rw [List.take_length] at this
  exact this
theorem kpL_mem {zs : Pol} {i : Nat} (hc : ¬ cont zs i = true) : ∀ j, i < j → zs.getD i (0, 0) ∈ kpL zs j
  | 0, h => absurd h (Nat.not_lt_zero _)
  | j + 1, h => by
    unfold kpL
    by_cases q : i = j
    · subst q
      rw [if_neg hc]
      exact List.mem_append_right _ (List.mem_singleton.mpr rfl)
    · have ih := kpL_mem (zs := zs) hc j (by omega)
      split
      · exact ih
      · exact List.mem_append_left _ ih
theorem fl_ts {x y : Int64} (hx : FL x) (hy : FL y) (h : tsN x = tsN y) : x = y := by
  refine ex_ext fun t ht => ?_
  have h1 := hx t ht
  have h2 := hy t ht
  have b1 := tsN_bit (x := x) ht
  have b2 := tsN_bit (x := y) ht
  rw [h, b2] at b1
  unfold sB at b1
  by_cases q : ex x t = 0
  · by_cases r : ex y t = 0
    · omega
    · rw [decide_eq_true r, decide_eq_false (fun z => z q)] at b1; cases b1
  · by_cases r : ex y t = 0
    · rw [decide_eq_true q, decide_eq_false (fun z => z r)] at b1; cases b1
    · omega
theorem kpL_ne {zs : Pol} (h0 : zs ≠ []) (hs : PSo zs) (hF : FLs zs) : kpL zs zs.length ≠ [] := by
  have hl : 0 < zs.length := List.length_pos_iff.mpr h0
  obtain ⟨m, ⟨j, hj, rfl⟩, hmin⟩ := pk_least (fun m => ∃ j, j < zs.length ∧ tsN (zs.getD j (0, 0)).1 = m) ⟨_, 0, hl, rfl⟩
  have hc : ¬ cont zs j = true := fun hc => by
    obtain ⟨i, hi, hij, hinc⟩ := cont_iff.mp hc
    unfold inc at hinc
    have e : tsN (zs.getD j (0, 0)).1 &&& tsN (zs.getD i (0, 0)).1 = tsN (zs.getD i (0, 0)).1 := by simpa using hinc
    have hle : tsN (zs.getD i (0, 0)).1 ≤ tsN (zs.getD j (0, 0)).1 := by rw [← e]; exact Nat.and_le_left
    have hge := hmin (tsN (zs.getD i (0, 0)).1)
    have heq : tsN (zs.getD i (0, 0)).1 = tsN (zs.getD j (0, 0)).1 := by
      by_cases q : tsN (zs.getD i (0, 0)).1 < tsN (zs.getD j (0, 0)).1
      · exact absurd ⟨i, hi, rfl⟩ (hge q)
      · omega
    have hmm := fl_ts (hF _ (getD_mem hi)) (hF _ (getD_mem hj)) heq
    have hpw := List.pairwise_iff_getElem.mp hs
    rw [getD_el hi, getD_el hj] at hmm
    rcases Nat.lt_or_gt_of_ne hij with q | q
    · have := hpw i j hi hj q
      rw [hmm] at this; omega
    · have := hpw j i hj hi q
      rw [hmm] at this; omega
  exact List.ne_nil_of_mem (kpL_mem hc zs.length hj)
theorem wP_memle {a : Int64 × Int64} {p : Pol} (h : a ∈ p) : uN a.2 ≤ wP p := wP_mem h
/-- what a form holds -/
def FinOk (f : Nat) (xs zs : Pol) : Prop := zs.length ≤ 32 ∧ PSo zs ∧ (∀ a ∈ zs, ∃ a0 ∈ xs, a.1 = mF f a0.1) ∧ (∀ a ∈ zs, 1 ≤ uN a.2 ∧ uN a.2 < 2 ^ 63 ∧ (f ≠ 0 → f ≠ 2 → a.2 = 1)) ∧ zs ≠ []
theorem fin_ok {f : Nat} {xs : Pol} (hf : f < 5) (hl : xs.length ≤ 32) (h0 : xs ≠ []) (h1 : CP1 xs) (hw : wP xs < 2 ^ 63) : FinOk f xs (fin f xs) := by
  have hlen : (fin f xs).length ≤ 32 := Nat.le_trans fin_len hl
  obtain ⟨w1, w2⟩ := frm_w (f := f) (xs := xs) (s := []) (by show 0 + wP xs < 2 ^ 64; omega) CP1.nil h1
  have w1 : wP (frm f xs) = wP xs := by show wP (xs.foldl (addF f) []) = _; rw [w1]; show 0 + _ = _; omega
  have w2 : CP1 (frm f xs) := w2
  have hso : PSo (frm f xs) := frm_so (l := xs) (s := []) PSo.nil
  have hne : frm f xs ≠ [] := frm_ne (Or.inl h0)
  have hm : ∀ a ∈ frm f xs, ∃ a0 ∈ xs, a.1 = mF f a0.1 := fun a ha => by
    rcases frm_mons (f := f) (l := xs) (s := []) (List.mem_map_of_mem ha) with z | ⟨x, x1, x2⟩
    · cases z
    · exact ⟨x, x1, x2⟩
  have hone : ∀ a ∈ oneL (frm f xs), (∃ a0 ∈ xs, a.1 = mF f a0.1) ∧ a.2 = 1 := fun a ha => by
    obtain ⟨y, y1, y2⟩ := List.mem_map.mp ha
    rw [← y2]
    exact ⟨hm y y1, rfl⟩
  have u1 : uN 1 = 1 := rfl
  have honene : oneL (frm f xs) ≠ [] := fun z => hne (List.map_eq_nil_iff.mp z)
  refine ⟨hlen, ?_⟩
  unfold fin
  by_cases h4 : f = 4
  · rw [if_pos h4]
    have hsl : (kpL (oneL (frm f xs)) (frm f xs).length).Sublist (oneL (frm f xs)) := by
      have := kpL_all (zs := oneL (frm f xs))
      rw [oneL_len] at this; exact this
    refine ⟨List.Pairwise.sublist hsl (oneL_so hso), fun a ha => (hone a (hsl.subset ha)).1, fun a ha => ?_, ?_⟩
    · rw [(hone a (hsl.subset ha)).2, u1]
      exact ⟨by omega, by omega, fun _ _ => rfl⟩
    · have hFL : FLs (oneL (frm f xs)) := fun a ha => by
        obtain ⟨y, y1, y2⟩ := List.mem_map.mp ha
        rw [← y2]; exact frm_FL (f := f) (xs := xs) (by omega) y y1
      have := kpL_ne honene (oneL_so hso) hFL
      rw [oneL_len] at this; exact this
  rw [if_neg h4]
  by_cases h02 : f = 0 ∨ f = 2
  · rw [if_pos h02]
    refine ⟨hso, hm, fun a ha => ⟨w2 a ha, by have := wP_mem ha; omega, fun z1 z2 => by omega⟩, hne⟩
  · rw [if_neg h02]
    refine ⟨oneL_so hso, fun a ha => (hone a ha).1, fun a ha => ?_, honene⟩
    rw [(hone a ha).2, u1]
    exact ⟨by omega, by omega, fun _ _ => rfl⟩
theorem ts_flt (x : Int64) : tsN (flt x) = tsN x := by
  apply Nat.eq_of_testBit_eq
  intro i
  by_cases hi : i < 16
  · rw [tsN_bit hi, tsN_bit hi]
    unfold sB
    rw [ex_flt hi]
    by_cases q : ex x i = 0
    · simp [q]
    · simp [q]
  · have h1 : ∀ y : Int64, tsN y < 2 ^ i := fun y => Nat.lt_of_lt_of_le (tsN_lt y) (Nat.pow_le_pow_right (n := 2) (i := 16) (by omega) (by omega))
    rw [Nat.testBit_lt_two_pow (h1 _), Nat.testBit_lt_two_pow (h1 _)]
theorem ts_mF (f : Nat) (x : Int64) : tsN (mF f x) = tsN x := by
  unfold mF
  split
  · rfl
  · exact ts_flt x
/-- the tags of a term are in the lineage -/
theorem lin_sub {xs : Pol} {a : Int64 × Int64} (h : a ∈ xs) : tsN a.1 &&& tsN (orK xs 0) = tsN a.1 := by
  obtain ⟨i, hi, e⟩ := List.getElem_of_mem h
  have := ((orK_sub (W := tsN (orK xs 0)) (xs := xs) (s := 0)).mp (Nat.and_self _)).2 i hi
  unfold tsA at this
  rw [getD_el hi, e] at this
  exact this
/-- the lineage is of rows alone -/
theorem lin_tags {b : Nat → Nat} {xs : Pol} {D : Nat} (h : ∀ c ∈ mons xs, TG b D c) : tsN (orK xs 0) &&& mk (tagB b) 16 = tsN (orK xs 0) := by
  refine orK_sub.mpr ⟨by rw [ts0, Nat.zero_and], fun i hi => ?_⟩
  rw [Nat.and_comm]
  exact ts_sub (h _ (List.mem_map_of_mem (getD_mem (d := (0, 0)) hi)))
/-- a set of tags within another -/
theorem mask_in {A M : Nat} (hA : A < 65536) (hM : M < 65536) (h : A &&& M = A) : nI A &&& (nI M ^^^ (-1)) = 0 := (tags_in hM (by omega)).1.mpr (by rw [and_n (by omega) (by omega), h])
/-! FACTS: the cheapest, the trust, what is needed -/
theorem chF_mem {b : Nat → Nat} : ∀ {ys : Pol} {x : Int64}, ∃ y, ys.foldl (chF b) (some x) = some y ∧ (y = x ∨ y ∈ mons ys)
  | [], x => ⟨x, rfl, Or.inl rfl⟩
  | a :: ys, x => by
    show ∃ y, ys.foldl (chF b) (some (if co b a.1 < co b x then a.1 else x)) = some y ∧ _
    obtain ⟨y, y1, y2⟩ := chF_mem (b := b) (ys := ys) (x := if co b a.1 < co b x then a.1 else x)
    refine ⟨y, y1, ?_⟩
    rcases y2 with z | z
    · split at z
      · exact Or.inr (by rw [z]; exact List.mem_cons_self ..)
      · exact Or.inl z
    · exact Or.inr (List.mem_cons_of_mem _ z)
theorem chV_mem {b : Nat → Nat} {ys : Pol} (h : ys ≠ []) : chV b ys ∈ mons ys := by
  cases ys with
  | nil => exact absurd rfl h
  | cons a ys =>
    obtain ⟨y, y1, y2⟩ := chF_mem (b := b) (ys := ys) (x := a.1)
    have e : chV b (a :: ys) = y := by
      unfold chV
      show (ys.foldl (chF b) (some a.1)).getD 0 = y
      rw [y1]; rfl
    rw [e]
    rcases y2 with z | z
    · rw [z]; exact List.mem_cons_self ..
    · exact List.mem_cons_of_mem _ z
theorem mx_le {b : Nat → Nat} : ∀ {ys : Pol} {s : Nat}, s ≤ 100 → ys.foldl (mxF b) s ≤ 100
  | [], _, h => h
  | a :: ys, s, h => mx_le (ys := ys) (mxF_le h)
theorem me_sub : ∀ {ys : Pol} {s : Nat}, (ys.foldl meF s &&& s = ys.foldl meF s) ∧ ∀ c ∈ mons ys, ys.foldl meF s &&& tsN c = ys.foldl meF s
  | [], s => ⟨Nat.and_self _, fun c hc => by cases hc⟩
  | a :: ys, s => by
    obtain ⟨i1, i2⟩ := me_sub (ys := ys) (s := meF s a)
    have i1 : ys.foldl meF (meF s a) &&& (s &&& tsN a.1) = ys.foldl meF (meF s a) := i1
    show (ys.foldl meF (meF s a) &&& s = _) ∧ ∀ c ∈ mons (a :: ys), ys.foldl meF (meF s a) &&& tsN c = _
    have k1 : ys.foldl meF (meF s a) &&& s = ys.foldl meF (meF s a) := by
      rw [← i1, Nat.and_assoc, Nat.and_assoc, Nat.and_comm (tsN a.1) s, ← Nat.and_assoc s s, Nat.and_self]
    have k2 : ys.foldl meF (meF s a) &&& tsN a.1 = ys.foldl meF (meF s a) := by
      rw [← i1, Nat.and_assoc, Nat.and_assoc, Nat.and_self]
    refine ⟨k1, fun c hc => ?_⟩
    rcases List.mem_cons.mp hc with z | z
    · rw [z]; exact k2
    · exact i2 c z
theorem me_lt : ∀ {ys : Pol} {s : Nat}, s < 65536 → ys.foldl meF s < 65536
  | [], _, h => h
  | a :: ys, s, h => me_lt (ys := ys) (me_le h)
/-- there is a world -/
theorem cnt_pos {f : Nat → Bool} {k : Nat} (hk : f k = true) : ∀ N, k < N → 1 ≤ cntN N f
  | 0, h => absurd h (Nat.not_lt_zero _)
  | N + 1, h => by
    unfold cntN
    by_cases q : k = N
    · subst q; rw [if_pos hk]; omega
    · have := cnt_pos hk N (by omega); omega
theorem worlds_pos {xs : Pol} (h : xs ≠ []) : 1 ≤ cntN 65536 (wB xs (tsN (orK xs 0))) := by
  refine cnt_pos (k := tsN (orK xs 0)) ?_ _ (tsN_lt _)
  unfold wB
  rw [Bool.and_eq_true]
  refine ⟨decide_eq_true (Nat.and_self _), hsB_iff.mpr ⟨0, List.length_pos_iff.mpr h, ?_⟩⟩
  exact lin_sub (getD_mem (d := (0, 0)) (List.length_pos_iff.mpr h))
/-- keys ascend -/
theorem RSo.get {rows : Rws} (h : RSo rows) {k : Nat} (hk : k + 1 < rows.length) : (rows.getD k (0, [])).1 < (rows.getD (k + 1) (0, [])).1 := by
  have := List.pairwise_iff_getElem.mp h.1 k (k + 1) (by omega) hk (by omega)
  rw [getD_el hk, getD_el (show k < rows.length by omega)]
  exact this

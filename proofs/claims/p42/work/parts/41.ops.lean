/-! PACKED AND DECIMAL KEYS: adding rows commutes with packing -/
def KB (N : Nat) (rows : Rws) : Prop := ∀ x ∈ rows, x.1 < N
theorem KB.kok {w : Nat} {rows : Rws} (h : KB (10 ^ w) rows) : KOk w rows := by
  intro k hk
  have : rows.getD k (0, []) ∈ rows := by
    rw [List.getD_eq_getElem?_getD, List.getElem?_eq_getElem hk]
    exact List.getElem_mem hk
  exact h _ this
theorem kspot_pk {K : Nat} {rows : Rws} (hK : K < 10000) (h : KB 10000 rows) : kspot (pk K) (pkR rows) = kspot K rows := by
  induction rows with
  | nil => rfl
  | cons x xs ih =>
    have hx := h x List.mem_cons_self
    have ih' := ih fun y hy => h y (List.mem_cons_of_mem _ hy)
    show (if pk x.1 < pk K then kspot (pk K) (pkR xs) + 1 else 0) = if x.1 < K then kspot K xs + 1 else 0
    rw [ih']
    by_cases q : x.1 < K
    · rw [if_pos q, if_pos ((pk_lt_iff hx hK).mpr q)]
    · rw [if_neg q, if_neg (fun z => q ((pk_lt_iff hx hK).mp z))]
theorem insAt_map {α β : Type} (f : α → β) (s : Nat) (v : α) (xs : List α) : (insAt s v xs).map f = insAt s (f v) (xs.map f) := by
  induction s generalizing xs with
  | zero => rfl
  | succ s ih => cases xs with
    | nil => rfl
    | cons x xs => simp only [insAt, List.map_cons, ih]
theorem insAt_mem {α : Type} {s : Nat} {v y : α} {xs : List α} (h : y ∈ insAt s v xs) : y = v ∨ y ∈ xs := by
  induction s generalizing xs with
  | zero => exact List.mem_cons.mp h
  | succ s ih => cases xs with
    | nil => exact List.mem_cons.mp h
    | cons x xs =>
      rcases List.mem_cons.mp h with h | h
      · exact Or.inr (h ▸ List.mem_cons_self)
      · rcases ih h with h | h
        · exact Or.inl h
        · exact Or.inr (List.mem_cons_of_mem _ h)
theorem rRow_pk {K : Nat} {rows : Rws} (hK : K < 10000) (h : KB 10000 rows) : rRow (pkR rows) (pk K) = (rRow rows K).map pkR := by
  unfold rRow
  rw [kspot_pk hK h, pkR_len]
  have hc : (kspot K rows < rows.length ∧ ((pkR rows).getD (kspot K rows) (0, [])).1 = pk K) ↔ (kspot K rows < rows.length ∧ (rows.getD (kspot K rows) (0, [])).1 = K) := by
    constructor
    · rintro ⟨h1, h2⟩
      rw [pkR_key h1] at h2
      refine ⟨h1, (pk_inj ?_ hK).mp h2⟩
      have : rows.getD (kspot K rows) (0, []) ∈ rows := by
        rw [List.getD_eq_getElem?_getD, List.getElem?_eq_getElem h1]
        exact List.getElem_mem h1
      exact h _ this
    · rintro ⟨h1, h2⟩
      rw [pkR_key h1, h2]; exact ⟨h1, rfl⟩
  by_cases q : kspot K rows < rows.length ∧ (rows.getD (kspot K rows) (0, [])).1 = K
  · rw [if_pos q, if_pos (hc.mpr q)]; rfl
  · rw [if_neg q, if_neg (fun z => q (hc.mp z))]
    by_cases q2 : rows.length < 32
    · rw [if_pos q2, if_pos q2]
      show some (insAt _ _ (rows.map _)) = some ((insAt _ _ rows).map _)
      rw [insAt_map]
    · rw [if_neg q2, if_neg q2]; rfl
theorem rRow_KB {N K : Nat} {rows rows1 : Rws} (hK : K < N) (h : KB N rows) (hr : rRow rows K = some rows1) : KB N rows1 := by
  unfold rRow at hr
  split at hr
  · cases hr; exact h
  · split at hr
    · cases hr
      intro x hx
      rcases insAt_mem hx with e | e
      · rw [e]; exact hK
      · exact h x e
    · cases hr
theorem set_map {α β : Type} (f : α → β) (s : Nat) (v : α) (xs : List α) : (xs.set s v).map f = (xs.map f).set s (f v) := by rw [List.map_set]
theorem rAdd_pk {K : Nat} {rows : Rws} {ys : Pol} (hK : K < 10000) (h : KB 10000 rows) : rAdd (pkR rows) (pk K) ys = (rAdd rows K ys).map pkR := by
  unfold rAdd
  rw [rRow_pk hK h]
  cases hr : rRow rows K with
  | none => rfl
  | some rows1 =>
    obtain ⟨h1, h2⟩ := rRow_spec hr
    show (match pAddL ((pkR rows1).getD (kspot (pk K) (pkR rows)) (0, [])).2 ys with | none => none | some zs => some ((pkR rows1).set (kspot (pk K) (pkR rows)) (pk K, zs))) = Option.map pkR (match pAddL (rows1.getD (kspot K rows) (0, [])).2 ys with | none => none | some zs => some (rows1.set (kspot K rows) (K, zs)))
    rw [kspot_pk hK h, pkR_pol h1]
    cases pAddL (rows1.getD (kspot K rows) (0, [])).2 ys with
    | none => rfl
    | some zs =>
      show some ((rows1.map _).set _ _) = some ((rows1.set _ _).map _)
      rw [set_map]
theorem rAdd_KB {N K : Nat} {rows rows1 : Rws} {ys : Pol} (hK : K < N) (h : KB N rows) (hr : rAdd rows K ys = some rows1) : KB N rows1 := by
  unfold rAdd at hr
  cases hq : rRow rows K with
  | none => rw [hq] at hr; cases hr
  | some r1 =>
    rw [hq] at hr
    have h1 := rRow_KB hK h hq
    revert hr
    show (match pAddL _ _ with | none => none | some zs => some _) = some rows1 → _
    cases pAddL (r1.getD (kspot K rows) (0, [])).2 ys with
    | none => intro hr; cases hr
    | some zs =>
      intro hr
      cases hr
      intro x hx
      rcases List.mem_or_eq_of_mem_set hx with e | e
      · exact h1 x e
      · rw [e]; exact hK
theorem rAddL_KB {N : Nat} {L rows rows1 : Rws} (hL : KB N L) (h : KB N rows) (hr : rAddL rows L = some rows1) : KB N rows1 := by
  induction L generalizing rows with
  | nil => cases hr; exact h
  | cons x L ih =>
    unfold rAddL at hr
    cases hq : rAdd rows x.1 x.2 with
    | none => rw [hq] at hr; cases hr
    | some r1 =>
      rw [hq] at hr
      exact ih (fun y hy => hL y (List.mem_cons_of_mem _ hy)) (rAdd_KB (hL x List.mem_cons_self) h hq) hr
theorem rAddL_pk {L rows : Rws} (hL : KB 10000 L) (h : KB 10000 rows) : rAddL (pkR rows) (pkR L) = (rAddL rows L).map pkR := by
  induction L generalizing rows with
  | nil => rfl
  | cons x L ih =>
    have hx := hL x List.mem_cons_self
    show (match rAdd (pkR rows) (pk x.1) x.2 with | none => none | some rows1 => rAddL rows1 (pkR L)) = Option.map pkR (match rAdd rows x.1 x.2 with | none => none | some rows1 => rAddL rows1 L)
    rw [rAdd_pk hx h]
    cases hq : rAdd rows x.1 x.2 with
    | none => rfl
    | some r1 => exact ih (fun y hy => hL y (List.mem_cons_of_mem _ hy)) (rAdd_KB hx h hq)
theorem rAddL_pk0 {L : Rws} (hL : KB 10000 L) : rAddL [] (pkR L) = (rAddL [] L).map pkR := rAddL_pk hL fun _ h => absurd h List.not_mem_nil
theorem SRes.dec {f : Option (Int32 × Mem)} {g : Mem} {r w : Nat} {L : Rws} (h : SRes f g r w (rAddL [] (pkR L))) (hL : KB 10000 L) : SRes f g r w ((rAddL [] L).map pkR) := rAddL_pk0 hL ▸ h
/-! THE VALUE OF A NODE out of those of its parts -/
abbrev Nd : Type := Nat × Nat × Nat
abbrev Vl : Type := Nat × Rws
def ar (k : Nat) : Nat := if k = 0 then 0 else if k = 4 ∨ k = 5 then 2 else 1
def opW (b : Nat → Nat) (nd : Nd) (f s : Nat) : Nat := if nd.1 = 0 then b nd.2.1 else if nd.1 = 3 then nd.2.1 else if nd.1 = 4 then f + s else f
def opL (b : Nat → Nat) (nd : Nd) (f s : Vl) : Rws :=
  if nd.1 = 0 then tabR b nd.2.1 16
  else if nd.1 = 3 then f.2.map fun x => (prjK f.1 nd.2.1 nd.2.2 x.1 nd.2.1, x.2)
  else if nd.1 = 4 then joinL f.1 s.1 nd.2.1 nd.2.2 f.2 s.2
  else if nd.1 = 5 then f.2 ++ s.2
  else f.2.filter fun x => selP nd.1 f.1 nd.2.1 nd.2.2 x.1
/-- what a node holds -/
def NOk (nd : Nd) : Prop := nd.1 = 0 ∧ nd.2.1 < 4 ∧ nd.2.2 = 0 ∨ nd.1 = 1 ∧ nd.2.1 < 4 ∧ nd.2.2 < 10 ∨ nd.1 = 2 ∧ nd.2.1 < 4 ∧ nd.2.2 < 4 ∨ nd.1 = 3 ∧ 1 ≤ nd.2.1 ∧ nd.2.1 ≤ 4 ∧ nd.2.2 < 10 ^ nd.2.1 ∧ (∀ i, i < nd.2.1 → dg nd.2.1 nd.2.2 i < 4) ∨ nd.1 = 4 ∧ nd.2.1 < 4 ∧ nd.2.2 < 4 ∨ nd.1 = 5 ∧ nd.2.1 = 0 ∧ nd.2.2 = 0
/-- it fits, where its parts have so many columns -/
def NFit (nd : Nd) (f s : Nat) : Prop := (nd.1 = 1 → nd.2.1 < f) ∧ (nd.1 = 2 → nd.2.1 < f ∧ nd.2.2 < f) ∧ (nd.1 = 3 → ∀ i, i < nd.2.1 → dg nd.2.1 nd.2.2 i < f) ∧ (nd.1 = 4 → nd.2.1 < f ∧ nd.2.2 < s ∧ f + s ≤ 4) ∧ (nd.1 = 5 → f = s)
/-- a value's form -/
def VOk (v : Vl) : Prop := 1 ≤ v.1 ∧ v.1 ≤ 4 ∧ KB (10 ^ v.1) v.2
theorem VOk.b4 {v : Vl} (h : VOk v) : KB 10000 v.2 := fun x hx => by
  have := h.2.2 x hx
  have h2 : 10 ^ v.1 ≤ 10 ^ 4 := Nat.pow_le_pow_right (by omega) h.2.1
  omega
theorem tabR_KB {b : Nat → Nat} {t : Nat} (hb : BOk b) : ∀ d, d ≤ 16 → KB (10 ^ b t) (tabR b t d) := by
  intro d
  induction d with
  | zero => intro _ x hx; cases hx
  | succ d ih =>
    intro hd x hx
    unfold tabR at hx
    by_cases q : b (4 + 5 * (15 - d)) = t + 1
    · rw [if_pos q] at hx
      rcases List.mem_cons.mp hx with e | e
      · rw [e]
        have := (hb.2.1 (15 - d) (by omega)).2.2.2.2.1 (by omega)
        rw [q] at this
        exact this
      · exact ih (by omega) x e
    · rw [if_neg q] at hx
      exact ih (by omega) x hx
theorem opL_KB {b : Nat → Nat} {nd : Nd} {f s : Vl} (hb : BOk b) (hn : NOk nd) (hf : NFit nd f.1 s.1) (vf : nd.1 ≠ 0 → VOk f) (vs : nd.1 = 4 ∨ nd.1 = 5 → VOk s) : KB (10 ^ opW b nd f.1 s.1) (opL b nd f s) ∧ 1 ≤ opW b nd f.1 s.1 ∧ opW b nd f.1 s.1 ≤ 4 := by
  unfold opW opL
  rcases hn with h | h | h | h | h | h
  · rw [if_pos h.1, if_pos h.1]
    have := hb.1 nd.2.1 h.2.1
    exact ⟨tabR_KB hb 16 (Nat.le_refl _), by omega, by omega⟩
  · have v := vf (by omega)
    rw [if_neg (by omega), if_neg (by omega), if_neg (by omega), if_neg (by omega), if_neg (by omega), if_neg (by omega), if_neg (by omega)]
    exact ⟨fun x hx => v.2.2 x (List.mem_filter.mp hx).1, v.1, v.2.1⟩
  · have v := vf (by omega)
    rw [if_neg (by omega), if_neg (by omega), if_neg (by omega), if_neg (by omega), if_neg (by omega), if_neg (by omega), if_neg (by omega)]
    exact ⟨fun x hx => v.2.2 x (List.mem_filter.mp hx).1, v.1, v.2.1⟩
  · rw [if_neg (by omega), if_pos h.1, if_neg (by omega), if_pos h.1]
    refine ⟨fun x hx => ?_, h.2.1, h.2.2.1⟩
    obtain ⟨y, hy, rfl⟩ := List.mem_map.mp hx
    exact prjK_lt _ _ _ _ _
  · have v := vf (by omega)
    have u := vs (by omega)
    have q := hf.2.2.2.1 h.1
    rw [if_neg (by omega), if_neg (by omega), if_pos h.1, if_neg (by omega), if_neg (by omega), if_pos h.1]
    refine ⟨fun x hx => ?_, by have := v.1; omega, q.2.2⟩
    obtain ⟨y, hy, hz⟩ := List.mem_flatMap.mp hx
    obtain ⟨z, hz2, rfl⟩ := List.mem_map.mp hz
    exact key_comb (v.2.2 y hy) (u.2.2 z (List.mem_filter.mp hz2).1)
  · have v := vf (by omega)
    have u := vs (by omega)
    have q := hf.2.2.2.2 h.1
    simp only [if_neg (show ¬ nd.1 = 0 by omega), if_neg (show ¬ nd.1 = 3 by omega), if_neg (show ¬ nd.1 = 4 by omega), if_pos h.1]
    refine ⟨fun x hx => ?_, v.1, v.2.1⟩
    rcases List.mem_append.mp hx with e | e
    · exact v.2.2 x e
    · have := u.2.2 x e
      rw [q]; exact this

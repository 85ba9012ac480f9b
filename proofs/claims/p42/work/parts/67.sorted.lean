/-! ORDER OF TERMS AND ROWS -/
def uN (x : Int64) : Nat := x.toBitVec.toNat
theorem uN_lt (x : Int64) : uN x < 2 ^ 64 := x.toBitVec.isLt
theorem uN_inj {x y : Int64} (h : uN x = uN y) : x = y := Int64.toBitVec_inj.mp (BitVec.eq_of_toNat_eq h)
theorem xor63 {X : Nat} (h : X < 2 ^ 64) : X ^^^ 2 ^ 63 = if X < 2 ^ 63 then X + 2 ^ 63 else X - 2 ^ 63 := by
  have key : ∀ Y, Y < 2 ^ 63 → Y ^^^ 2 ^ 63 = Y + 2 ^ 63 := by
    intro Y hY
    rw [Nat.add_comm, show 2 ^ 63 + Y = 2 ^ 63 * 1 + Y from rfl, Nat.two_pow_add_eq_or_of_lt hY]
    apply Nat.eq_of_testBit_eq
    intro i
    rw [Nat.testBit_xor, Nat.testBit_or, Nat.testBit_two_pow]
    by_cases q : 63 = i
    · subst q; rw [Nat.testBit_lt_two_pow hY]; rfl
    · simp [q]
  by_cases q : X < 2 ^ 63
  · rw [if_pos q, key X q]
  · rw [if_neg q]
    have e : X = (X - 2 ^ 63) ^^^ 2 ^ 63 := by rw [key _ (by omega)]; omega
    have e2 : X ^^^ 2 ^ 63 = ((X - 2 ^ 63) ^^^ 2 ^ 63) ^^^ 2 ^ 63 := by rw [← e]
    rw [e2, Nat.xor_assoc, Nat.xor_self, Nat.xor_zero]
theorem sgn_toInt (x : Int64) : (x ^^^ (-9223372036854775808)).toInt = (uN x : Int) - 2 ^ 63 := by
  have h1 : (x ^^^ (-9223372036854775808)).toBitVec.toNat = uN x ^^^ 2 ^ 63 := by
    rw [Int64.toBitVec_xor, BitVec.toNat_xor]; rfl
  have h2 := uN_lt x
  show (x ^^^ (-9223372036854775808)).toBitVec.toInt = _
  rw [BitVec.toInt_eq_toNat_cond, h1, xor63 h2]
  by_cases q : uN x < 2 ^ 63
  · rw [if_pos q, if_neg (by omega)]; omega
  · rw [if_neg q, if_pos (by omega)]; omega
theorem cmp_u {x y : Int64} : lg_cmp (x ^^^ (-9223372036854775808)) (y ^^^ (-9223372036854775808)) ≤ 0 ↔ uN x ≤ uN y := by
  rw [lg_cmp_le, Int64.le_iff_toInt_le, sgn_toInt, sgn_toInt]; omega
theorem spot_cons {m : Int64} {x : Int64 × Int64} {xs : Pol} : spot m (x :: xs) = if uN x.1 ≤ uN m then 0 else spot m xs + 1 := by
  show (if lg_cmp (x.1 ^^^ (-9223372036854775808)) (m ^^^ (-9223372036854775808)) ≤ 0 then 0 else spot m xs + 1) = _
  by_cases q : uN x.1 ≤ uN m
  · rw [if_pos q, if_pos (cmp_u.mpr q)]
  · rw [if_neg q, if_neg (fun z => q (cmp_u.mp z))]
abbrev phas (m : Int64) (xs : Pol) : Prop := spot m xs < xs.length ∧ (xs.getD (spot m xs) (0, 0)).1 = m
def pIns (m f : Int64) : Pol → Pol
  | [] => [(m, f)]
  | x :: xs => if uN m < uN x.1 then x :: pIns m f xs else if x.1 = m then (x.1, x.2 + f) :: xs else (m, f) :: x :: xs
theorem phas_lo {m : Int64} {x : Int64 × Int64} {xs : Pol} (h : uN x.1 ≤ uN m) : phas m (x :: xs) ↔ x.1 = m := by
  unfold phas
  rw [spot_cons, if_pos h]
  simp
theorem phas_hi {m : Int64} {x : Int64 × Int64} {xs : Pol} (h : ¬ uN x.1 ≤ uN m) : phas m (x :: xs) ↔ phas m xs := by
  unfold phas
  rw [spot_cons, if_neg h]
  simp
theorem pIns_has {m f : Int64} : ∀ {xs : Pol}, phas m xs → xs.set (spot m xs) ((xs.getD (spot m xs) (0, 0)).1, (xs.getD (spot m xs) (0, 0)).2 + f) = pIns m f xs
  | [], h => absurd h.1 (Nat.not_lt_zero _)
  | x :: xs, h => by
    rw [pIns, spot_cons]
    by_cases q : uN x.1 ≤ uN m
    · have e := (phas_lo q).mp h
      rw [if_pos q, if_neg (by omega), if_pos e]; rfl
    · have := pIns_has (f := f) ((phas_hi q).mp h)
      rw [if_neg q, if_pos (by omega), ← this]; simp
theorem pIns_not {m f : Int64} : ∀ {xs : Pol}, ¬ phas m xs → insAt (spot m xs) (m, f) xs = pIns m f xs
  | [], _ => rfl
  | x :: xs, h => by
    rw [pIns, spot_cons]
    by_cases q : uN x.1 ≤ uN m
    · have e : ¬ x.1 = m := fun z => h ((phas_lo q).mpr z)
      rw [if_pos q, if_neg (by omega), if_neg e]; rfl
    · have := pIns_not (f := f) (fun z => h ((phas_hi q).mpr z))
      rw [if_neg q, if_pos (by omega), ← this]; rfl
theorem pAdd_eq {xs : Pol} {m f : Int64} : pAdd xs m f = if phas m xs ∨ xs.length < 32 then some (pIns m f xs) else none := by
  unfold pAdd
  have e : (spot m xs < xs.length ∧ lg_cmp (xs.getD (spot m xs) (0, 0)).1 m = 0) ↔ phas m xs := by unfold phas; rw [lg_cmp_eq]
  by_cases q : phas m xs
  · rw [if_pos (e.mpr q), if_pos (Or.inl q), pIns_has q]
  · rw [if_neg (fun z => q (e.mp z))]
    by_cases w : xs.length < 32
    · rw [if_pos w, if_pos (Or.inr w), pIns_not q]
    · rw [if_neg w, if_neg (fun z => Or.elim z q w)]
/-- terms in their order -/
def PSo (xs : Pol) : Prop := xs.Pairwise fun a c => uN c.1 < uN a.1
def mons (xs : Pol) : List Int64 := xs.map Prod.fst
theorem mons_ins {m f c : Int64} : ∀ {xs : Pol}, c ∈ mons (pIns m f xs) ↔ c = m ∨ c ∈ mons xs
  | [] => by simp [mons, pIns]
  | x :: xs => by
    have ih := mons_ins (m := m) (f := f) (c := c) (xs := xs)
    rw [pIns]
    unfold mons at ih ⊢
    by_cases q : uN m < uN x.1
    · rw [if_pos q, List.map_cons, List.mem_cons, ih, List.map_cons, List.mem_cons]
      constructor
      · rintro (a | a | a)
        · exact Or.inr (Or.inl a)
        · exact Or.inl a
        · exact Or.inr (Or.inr a)
      · rintro (a | a | a)
        · exact Or.inr (Or.inl a)
        · exact Or.inl a
        · exact Or.inr (Or.inr a)
    · rw [if_neg q]
      by_cases w : x.1 = m
      · rw [if_pos w, List.map_cons, List.map_cons, List.mem_cons, ← w]
        constructor
        · exact fun a => Or.inr a
        · rintro (a | a)
          · exact Or.inl a
          · exact a
      · rw [if_neg w, List.map_cons, List.mem_cons]
theorem PSo.ins {m f : Int64} : ∀ {xs : Pol}, PSo xs → PSo (pIns m f xs)
  | [], _ => List.pairwise_singleton _ _
  | x :: xs, h => by
    obtain ⟨h1, h2⟩ := List.pairwise_cons.mp h
    rw [pIns]
    by_cases q : uN m < uN x.1
    · rw [if_pos q]
      refine List.pairwise_cons.mpr ⟨fun a ha => ?_, PSo.ins h2⟩
      rcases (mons_ins (m := m) (f := f)).mp (List.mem_map_of_mem (f := Prod.fst) ha) with e | e
      · rw [e]; exact q
      · obtain ⟨c, c1, c2⟩ := List.mem_map.mp e
        rw [← c2]; exact h1 c c1
    · rw [if_neg q]
      by_cases w : x.1 = m
      · rw [if_pos w]
        exact List.pairwise_cons.mpr ⟨fun a ha => h1 a ha, h2⟩
      · rw [if_neg w]
        have hne : uN x.1 ≠ uN m := fun z => w (uN_inj z)
        refine List.pairwise_cons.mpr ⟨fun a ha => ?_, h⟩
        rcases List.mem_cons.mp ha with e | e
        · rw [e]; show uN x.1 < uN m; omega
        · have := h1 a e; show uN a.1 < uN m; omega
theorem phas_iff {m : Int64} : ∀ {xs : Pol}, PSo xs → (phas m xs ↔ m ∈ mons xs)
  | [], _ => ⟨fun h => absurd h.1 (Nat.not_lt_zero _), fun h => by cases h⟩
  | x :: xs, h => by
    obtain ⟨h1, h2⟩ := List.pairwise_cons.mp h
    by_cases q : uN x.1 ≤ uN m
    · rw [phas_lo q]
      constructor
      · intro e; rw [← e]; exact List.mem_cons_self ..
      · intro e
        rcases List.mem_cons.mp e with e | e
        · exact e.symm
        · obtain ⟨c, c1, c2⟩ := List.mem_map.mp e
          have := h1 c c1
          rw [c2] at this; omega
    · rw [phas_hi q, phas_iff h2]
      constructor
      · exact fun e => List.mem_cons_of_mem _ e
      · intro e
        rcases List.mem_cons.mp e with e | e
        · exact absurd (Nat.le_of_eq (congrArg uN e.symm)) q
        · exact e
theorem nodup_le {α : Type} [DecidableEq α] : ∀ {l M : List α}, l.Nodup → (∀ x ∈ l, x ∈ M) → l.length ≤ M.length
  | [], _, _, _ => Nat.zero_le _
  | a :: l, M, h, hs => by
    obtain ⟨h1, h2⟩ := List.nodup_cons.mp h
    have ha := hs a (List.mem_cons_self ..)
    have := nodup_le (l := l) (M := M.erase a) h2 fun x hx => (List.mem_erase_of_ne (show x ≠ a from fun z => h1 (by rw [← z]; exact hx))).mpr (hs x (List.mem_cons_of_mem _ hx))
    rw [List.length_erase_of_mem ha] at this
    have := List.length_pos_of_mem ha
    rw [List.length_cons]; omega
theorem PSo.nodup {xs : Pol} (h : PSo xs) : (mons xs).Nodup := by
  unfold mons
  rw [List.Nodup, List.pairwise_map]
  exact h.imp fun q z => by rw [z] at q; omega
/-- all terms are among some: they have room -/
theorem pAdd_in {xs : Pol} {m f : Int64} {M : List Int64} (h : PSo xs) (hM : M.length ≤ 32) (hx : ∀ c ∈ mons xs, c ∈ M) (hm : m ∈ M) : pAdd xs m f = some (pIns m f xs) := by
  rw [pAdd_eq]
  by_cases q : phas m xs
  · rw [if_pos (Or.inl q)]
  · have hnm : m ∉ mons xs := fun z => q ((phas_iff h).mpr z)
    have := nodup_le (l := m :: mons xs) (M := M) (List.nodup_cons.mpr ⟨hnm, h.nodup⟩) fun c hc => by
      rcases List.mem_cons.mp hc with e | e
      · rw [e]; exact hm
      · exact hx c e
    rw [if_pos (Or.inr (by rw [List.length_cons, show (mons xs).length = xs.length from List.length_map ..] at this; omega))]
theorem pAddL_in {M : List Int64} (hM : M.length ≤ 32) : ∀ {ys xs : Pol}, PSo xs → (∀ c ∈ mons xs, c ∈ M) → (∀ c ∈ mons ys, c ∈ M) → ∃ zs, pAddL xs ys = some zs ∧ PSo zs ∧ (∀ c, c ∈ mons zs ↔ c ∈ mons xs ∨ c ∈ mons ys)
  | [], xs, h1, h2, h3 => ⟨xs, rfl, h1, fun c => ⟨Or.inl, fun z => z.elim id (fun w => by cases w)⟩⟩
  | y :: ys, xs, h1, h2, h3 => by
    have e := pAdd_in (f := y.2) h1 hM h2 (h3 y.1 (List.mem_cons_self ..))
    obtain ⟨zs, a1, a2, a3⟩ := pAddL_in hM (ys := ys) (xs := pIns y.1 y.2 xs) h1.ins (fun c hc => by
      rcases mons_ins.mp hc with q | q
      · rw [q]; exact h3 y.1 (List.mem_cons_self ..)
      · exact h2 c q) (fun c hc => h3 c (List.mem_cons_of_mem _ hc))
    refine ⟨zs, by rw [pAddL, e]; exact a1, a2, fun c => ?_⟩
    rw [a3, mons_ins]
    show _ ↔ _ ∨ c ∈ y.1 :: mons ys
    rw [List.mem_cons]
    constructor
    · rintro ((q | q) | q)
      · exact Or.inr (Or.inl q)
      · exact Or.inl q
      · exact Or.inr (Or.inr q)
    · rintro (q | q | q)
      · exact Or.inl (Or.inr q)
      · exact Or.inl (Or.inl q)
      · exact Or.inr q
theorem pAddL_some : ∀ {ys xs zs : Pol}, PSo xs → pAddL xs ys = some zs → PSo zs ∧ (∀ c, c ∈ mons zs ↔ c ∈ mons xs ∨ c ∈ mons ys)
  | [], xs, zs, h1, h2 => by
    cases h2
    exact ⟨h1, fun c => ⟨Or.inl, fun z => z.elim id (fun w => by cases w)⟩⟩
  | y :: ys, xs, zs, h1, h2 => by
    rw [pAddL, pAdd_eq] at h2
    by_cases q : phas y.1 xs ∨ xs.length < 32
    · rw [if_pos q] at h2
      obtain ⟨a2, a3⟩ := pAddL_some (ys := ys) (xs := pIns y.1 y.2 xs) h1.ins h2
      refine ⟨a2, fun c => ?_⟩
      rw [a3, mons_ins]
      show _ ↔ _ ∨ c ∈ y.1 :: mons ys
      rw [List.mem_cons]
      constructor
      · rintro ((q | q) | q)
        · exact Or.inr (Or.inl q)
        · exact Or.inl q
        · exact Or.inr (Or.inr q)
      · rintro (q | q | q)
        · exact Or.inl (Or.inr q)
        · exact Or.inl (Or.inl q)
        · exact Or.inr q
    · rw [if_neg q] at h2; cases h2
theorem pIns_len {m f : Int64} : ∀ {xs : Pol}, (phas m xs → (pIns m f xs).length = xs.length) ∧ (¬ phas m xs → (pIns m f xs).length = xs.length + 1) := by
  intro xs
  refine ⟨fun h => by rw [← pIns_has h, List.length_set], fun h => by rw [← pIns_not h, insAt_len]⟩
theorem pAddL_len : ∀ {ys xs zs : Pol}, xs.length ≤ 32 → pAddL xs ys = some zs → zs.length ≤ 32
  | [], xs, zs, h1, h2 => by cases h2; exact h1
  | y :: ys, xs, zs, h1, h2 => by
    rw [pAddL, pAdd_eq] at h2
    by_cases q : phas y.1 xs ∨ xs.length < 32
    · rw [if_pos q] at h2
      refine pAddL_len (xs := pIns y.1 y.2 xs) ?_ h2
      by_cases w : phas y.1 xs
      · rw [pIns_len.1 w]; exact h1
      · rw [pIns_len.2 w]; have := q.resolve_left w; omega
    · rw [if_neg q] at h2; cases h2
/-! rows -/
def rIns (K : Nat) (ys : Pol) : Rws → Option Rws
  | [] => (pAddL [] ys).map fun z => [(K, z)]
  | x :: xs => if x.1 < K then (rIns K ys xs).map (x :: ·) else if x.1 = K then (pAddL x.2 ys).map fun z => (K, z) :: xs else (pAddL [] ys).map fun z => (K, z) :: x :: xs
abbrev kh (K : Nat) (rows : Rws) : Prop := kspot K rows < rows.length ∧ (rows.getD (kspot K rows) (0, [])).1 = K
theorem kspot_cons {K : Nat} {x : Nat × Pol} {xs : Rws} : kspot K (x :: xs) = if x.1 < K then kspot K xs + 1 else 0 := rfl
def rPut (K : Nat) (ys : Pol) (rows : Rws) : Option Rws := (pAddL (rows.getD (kspot K rows) (0, [])).2 ys).map fun zs => rows.set (kspot K rows) (K, zs)
theorem rIns_has {K : Nat} {ys : Pol} : ∀ {rows : Rws}, kh K rows → (pAddL (rows.getD (kspot K rows) (0, [])).2 ys).map (fun zs => rows.set (kspot K rows) (K, zs)) = rIns K ys rows
  | [], h => absurd h.1 (Nat.not_lt_zero _)
  | x :: xs, h => by
    rw [rIns]
    unfold kh at h
    rw [kspot_cons] at h ⊢
    by_cases q : x.1 < K
    · rw [if_pos q] at h ⊢
      rw [if_pos q]
      have := rIns_has (K := K) (ys := ys) (rows := xs) ⟨by simpa using h.1, by simpa using h.2⟩
      rw [← this, Option.map_map]
      simp only [List.getD_cons_succ]
      rfl
    · rw [if_neg q] at h ⊢
      have e : x.1 = K := by simpa using h.2
      rw [if_neg q, if_pos e]
      rfl
theorem rIns_not {K : Nat} {ys : Pol} : ∀ {rows : Rws}, ¬ kh K rows → (pAddL [] ys).map (fun zs => insAt (kspot K rows) (K, zs) rows) = rIns K ys rows
  | [], _ => rfl
  | x :: xs, h => by
    rw [rIns]
    unfold kh at h
    rw [kspot_cons] at h ⊢
    by_cases q : x.1 < K
    · rw [if_pos q] at h ⊢
      rw [if_pos q]
      have := rIns_not (K := K) (ys := ys) (rows := xs) (fun z => h ⟨by simpa using z.1, by simpa using z.2⟩)
      rw [← this, Option.map_map]
      rfl
    · rw [if_neg q] at h ⊢
      have e : ¬ x.1 = K := fun z => h ⟨by simp, by simpa using z⟩
      rw [if_neg q, if_neg e]
      rfl
theorem insAt_set {α : Type} : ∀ (s : Nat) (v w : α) (xs : List α), s ≤ xs.length → (insAt s v xs).set s w = insAt s w xs
  | 0, _, _, _, _ => rfl
  | s + 1, v, w, [], h => by simp at h
  | s + 1, v, w, x :: xs, h => by
    show x :: (insAt s v xs).set s w = x :: insAt s w xs
    rw [insAt_set s v w xs (by simpa using h)]
theorem rAdd_eq {rows : Rws} {K : Nat} {ys : Pol} : rAdd rows K ys = if kh K rows ∨ rows.length < 32 then rIns K ys rows else none := by
  unfold rAdd rRow
  by_cases q : kh K rows
  · have q' := q
    rw [if_pos q', if_pos (Or.inl q), ← rIns_has q]
    dsimp only
    cases pAddL (rows.getD (kspot K rows) (0, [])).2 ys <;> rfl
  · have q' := q
    rw [if_neg q']
    by_cases w : rows.length < 32
    · rw [if_pos w, if_pos (Or.inr w), ← rIns_not q]
      have e : ((insAt (kspot K rows) (K, []) rows).getD (kspot K rows) (0, [])).2 = ([] : Pol) := by
        rw [insAt_get _ _ _ _ (kspot_le K rows), if_neg (Nat.lt_irrefl _), if_pos rfl]
      dsimp only
      rw [e]
      cases pAddL [] ys with
      | none => rfl
      | some zs => exact congrArg some (insAt_set _ _ _ _ (kspot_le K rows))
    · rw [if_neg w, if_neg (fun z => Or.elim z q w)]
/-- rows in their order -/
def RSo (rows : Rws) : Prop := rows.Pairwise (fun x y => x.1 < y.1) ∧ ∀ x ∈ rows, PSo x.2
theorem PSo.nil : PSo [] := List.Pairwise.nil
/-- what a row's adding makes: a row changes, or comes -/
theorem rIns_mem {K : Nat} {ys : Pol} : ∀ {rows rows1 : Rws}, RSo rows → rIns K ys rows = some rows1 → RSo rows1 ∧ (∀ y ∈ rows1, y ∈ rows ∧ y.1 ≠ K ∨ y.1 = K ∧ ∃ zs0, ((K, zs0) ∈ rows ∨ zs0 = [] ∧ ∀ x ∈ rows, x.1 ≠ K) ∧ pAddL zs0 ys = some y.2) ∧ (∀ x ∈ rows, x.1 ≠ K → x ∈ rows1) ∧ (∃ zs, (K, zs) ∈ rows1)
  | [], rows1, h, e => by
    rw [rIns] at e
    cases hz : pAddL [] ys with
    | none => rw [hz] at e; cases e
    | some z =>
      rw [hz] at e
      cases e
      refine ⟨⟨List.pairwise_singleton _ _, fun x hx => ?_⟩, fun y hy => ?_, fun x hx => absurd hx List.not_mem_nil, z, List.mem_singleton.mpr rfl⟩
      · rw [List.mem_singleton.mp hx]; exact (pAddL_some PSo.nil hz).1
      · rw [List.mem_singleton.mp hy]; exact Or.inr ⟨rfl, [], Or.inr ⟨rfl, fun x hx => by cases hx⟩, hz⟩
  | x :: xs, rows1, h, e => by
    obtain ⟨h1, h2⟩ := List.pairwise_cons.mp h.1
    have hx := h.2 x (List.mem_cons_self ..)
    have hxs : RSo xs := ⟨h2, fun y hy => h.2 y (List.mem_cons_of_mem _ hy)⟩
    rw [rIns] at e
    by_cases q : x.1 < K
    · rw [if_pos q] at e
      cases hz : rIns K ys xs with
      | none => rw [hz] at e; cases e
      | some r =>
        rw [hz] at e
        cases e
        obtain ⟨a1, a2, a3, zs, a4⟩ := rIns_mem hxs hz
        refine ⟨⟨List.pairwise_cons.mpr ⟨fun y hy => ?_, a1.1⟩, fun y hy => ?_⟩, fun y hy => ?_, fun y hy hne => ?_, zs, List.mem_cons_of_mem _ a4⟩
        · rcases a2 y hy with ⟨c1, _⟩ | ⟨c1, _⟩
          · exact h1 y c1
          · omega
        · rcases List.mem_cons.mp hy with c | c
          · rw [c]; exact hx
          · exact a1.2 y c
        · rcases List.mem_cons.mp hy with c | c
          · rw [c]; exact Or.inl ⟨List.mem_cons_self .., by omega⟩
          · rcases a2 y c with ⟨c1, c2⟩ | ⟨c1, z0, c2, c3⟩
            · exact Or.inl ⟨List.mem_cons_of_mem _ c1, c2⟩
            · refine Or.inr ⟨c1, z0, ?_, c3⟩
              rcases c2 with c2 | ⟨c2, c4⟩
              · exact Or.inl (List.mem_cons_of_mem _ c2)
              · refine Or.inr ⟨c2, fun w hw => ?_⟩
                rcases List.mem_cons.mp hw with c | c
                · rw [c]; omega
                · exact c4 w c
        · rcases List.mem_cons.mp hy with c | c
          · rw [c]; exact List.mem_cons_self ..
          · exact List.mem_cons_of_mem _ (a3 y c hne)
    · rw [if_neg q] at e
      by_cases w : x.1 = K
      · rw [if_pos w] at e
        cases hz : pAddL x.2 ys with
        | none => rw [hz] at e; cases e
        | some z =>
          rw [hz] at e
          cases e
          refine ⟨⟨List.pairwise_cons.mpr ⟨fun y hy => by have := h1 y hy; show K < y.1; omega, h2⟩, fun y hy => ?_⟩, fun y hy => ?_, fun y hy hne => ?_, z, List.mem_cons_self ..⟩
          · rcases List.mem_cons.mp hy with c | c
            · rw [c]; exact (pAddL_some hx hz).1
            · exact hxs.2 y c
          · rcases List.mem_cons.mp hy with c | c
            · rw [c]; exact Or.inr ⟨rfl, x.2, Or.inl (by rw [← w]; exact List.mem_cons_self ..), hz⟩
            · exact Or.inl ⟨List.mem_cons_of_mem _ c, by have := h1 y c; omega⟩
          · rcases List.mem_cons.mp hy with c | c
            · exact absurd (c ▸ w) hne
            · exact List.mem_cons_of_mem _ c
      · rw [if_neg w] at e
        cases hz : pAddL [] ys with
        | none => rw [hz] at e; cases e
        | some z =>
          rw [hz] at e
          cases e
          have hno : ∀ y ∈ x :: xs, y.1 ≠ K := fun y hy => by
            rcases List.mem_cons.mp hy with c | c
            · rw [c]; exact w
            · have := h1 y c; omega
          refine ⟨⟨List.pairwise_cons.mpr ⟨fun y hy => ?_, h.1⟩, fun y hy => ?_⟩, fun y hy => ?_, fun y hy hne => List.mem_cons_of_mem _ hy, z, List.mem_cons_self ..⟩
          · show K < y.1
            rcases List.mem_cons.mp hy with c | c
            · rw [c]; omega
            · have := h1 y c; omega
          · rcases List.mem_cons.mp hy with c | c
            · rw [c]; exact (pAddL_some PSo.nil hz).1
            · exact h.2 y c
          · rcases List.mem_cons.mp hy with c | c
            · rw [c]; exact Or.inr ⟨rfl, [], Or.inr ⟨rfl, hno⟩, hz⟩
            · exact Or.inl ⟨c, hno y c⟩
theorem khas_iff {K : Nat} : ∀ {rows : Rws}, rows.Pairwise (fun x y => x.1 < y.1) → (kh K rows ↔ ∃ x ∈ rows, x.1 = K)
  | [], _ => ⟨fun h => absurd h.1 (Nat.not_lt_zero _), fun ⟨x, h, _⟩ => by cases h⟩
  | x :: xs, h => by
    obtain ⟨h1, h2⟩ := List.pairwise_cons.mp h
    unfold kh
    rw [kspot_cons]
    by_cases q : x.1 < K
    · rw [if_pos q]
      have ih := khas_iff (K := K) h2
      unfold kh at ih
      simp only [List.length_cons, List.getD_cons_succ, Nat.add_lt_add_iff_right]
      rw [ih]
      constructor
      · rintro ⟨y, y1, y2⟩; exact ⟨y, List.mem_cons_of_mem _ y1, y2⟩
      · rintro ⟨y, y1, y2⟩
        rcases List.mem_cons.mp y1 with c | c
        · rw [c] at y2; omega
        · exact ⟨y, c, y2⟩
    · rw [if_neg q]
      simp only [List.length_cons, List.getD_cons_zero]
      constructor
      · rintro ⟨_, y⟩; exact ⟨x, List.mem_cons_self .., y⟩
      · rintro ⟨y, y1, y2⟩
        rcases List.mem_cons.mp y1 with c | c
        · rw [c] at y2; exact ⟨by omega, y2⟩
        · have := h1 y c; omega
theorem rAdd_some {rows rows1 : Rws} {K : Nat} {ys : Pol} (h : rAdd rows K ys = some rows1) : rIns K ys rows = some rows1 := by
  rw [rAdd_eq] at h
  by_cases q : kh K rows ∨ rows.length < 32
  · rw [if_pos q] at h; exact h
  · rw [if_neg q] at h; cases h

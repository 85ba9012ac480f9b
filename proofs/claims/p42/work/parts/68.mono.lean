/-! FEWER ROWS NEVER MAKE A QUERY TOO LARGE -/
/-- each row has a row of its key with all its monomials -/
def Sub (L L' : Rws) : Prop := ∀ x ∈ L, ∃ y ∈ L', y.1 = x.1 ∧ ∀ c ∈ mons x.2, c ∈ mons y.2
theorem Sub.refl (L : Rws) : Sub L L := fun x hx => ⟨x, hx, rfl, fun _ h => h⟩
theorem Sub.trans {L M N : Rws} (h : Sub L M) (h' : Sub M N) : Sub L N := fun x hx => by
  obtain ⟨y, a1, a2, a3⟩ := h x hx
  obtain ⟨z, b1, b2, b3⟩ := h' y a1
  exact ⟨z, b1, b2.trans a2, fun c hc => b3 c (a3 c hc)⟩
theorem rso_uniq {rows : Rws} (h : RSo rows) {x y : Nat × Pol} (hx : x ∈ rows) (hy : y ∈ rows) (e : x.1 = y.1) : x = y := by
  have h1 := h.1
  clear h
  induction rows with
  | nil => cases hx
  | cons z rows ih =>
    obtain ⟨a1, a2⟩ := List.pairwise_cons.mp h1
    rcases List.mem_cons.mp hx with c | c
    · rcases List.mem_cons.mp hy with d | d
      · rw [c, d]
      · have := a1 y d; rw [c] at e; omega
    · rcases List.mem_cons.mp hy with d | d
      · have := a1 x c; rw [d] at e; omega
      · exact ih c d a2
/-- what is added is there afterwards -/
theorem rAddL_abs : ∀ {L rows r : Rws}, RSo rows → rows.length ≤ 32 → (∀ x ∈ rows, x.2.length ≤ 32) → rAddL rows L = some r → RSo r ∧ r.length ≤ 32 ∧ (∀ x ∈ r, x.2.length ≤ 32) ∧ Sub rows r ∧ Sub L r ∧ ∀ y ∈ r, ∀ c ∈ mons y.2, ∃ x, (x ∈ rows ∨ x ∈ L) ∧ x.1 = y.1 ∧ c ∈ mons x.2
  | [], rows, r, h, hl, hp, e => by
    cases e
    exact ⟨h, hl, hp, Sub.refl _, fun x hx => absurd hx List.not_mem_nil, fun y hy c hc => ⟨y, Or.inl hy, rfl, hc⟩⟩
  | x :: L, rows, r, h, hl, hp, e => by
    rw [rAddL] at e
    cases hr : rAdd rows x.1 x.2 with
    | none => rw [hr] at e; cases e
    | some rows1 =>
      rw [hr] at e
      obtain ⟨a1, a2, a3, zs, a4⟩ := rIns_mem h (rAdd_some hr)
      have hl1 : rows1.length ≤ 32 := by
        have e2 := hr
        unfold rAdd at e2
        cases hw : rRow rows x.1 with
        | none => rw [hw] at e2; cases e2
        | some r0 =>
          rw [hw] at e2
          have hr0 : r0.length ≤ 32 := by
            unfold rRow at hw
            by_cases q : kspot x.1 rows < rows.length ∧ (rows.getD (kspot x.1 rows) (0, [])).1 = x.1
            · rw [if_pos q] at hw; cases hw; exact hl
            · rw [if_neg q] at hw
              by_cases w : rows.length < 32
              · rw [if_pos w] at hw; cases hw; rw [insAt_len]; omega
              · rw [if_neg w] at hw; cases hw
          dsimp only at e2
          cases hz : pAddL (r0.getD (kspot x.1 rows) (0, [])).2 x.2 with
          | none => rw [hz] at e2; cases e2
          | some z => rw [hz] at e2; cases e2; rw [List.length_set]; exact hr0
      have hp1 : ∀ y ∈ rows1, y.2.length ≤ 32 := fun y hy => by
        rcases a2 y hy with ⟨c1, _⟩ | ⟨c1, z0, c2, c3⟩
        · exact hp y c1
        · rcases c2 with c2 | ⟨c2, _⟩
          · exact pAddL_len (hp _ c2) c3
          · rw [c2] at c3; exact pAddL_len (by simp) c3
      obtain ⟨b1, b2, b3, b4, b5, b6⟩ := rAddL_abs a1 hl1 hp1 e
      have hso : ∀ y ∈ rows1, y.1 = x.1 → ∃ z0, ((x.1, z0) ∈ rows ∨ z0 = [] ∧ ∀ w ∈ rows, w.1 ≠ x.1) ∧ (∀ c, c ∈ mons y.2 ↔ c ∈ mons z0 ∨ c ∈ mons x.2) := fun y hy hk => by
        rcases a2 y hy with ⟨_, c1⟩ | ⟨c1, z0, c2, c3⟩
        · exact absurd hk c1
        · refine ⟨z0, c2, (pAddL_some ?_ c3).2⟩
          rcases c2 with c2 | ⟨c2, _⟩
          · exact h.2 _ c2
          · rw [c2]; exact PSo.nil
      have s1 : Sub rows rows1 := fun y hy => by
        by_cases q : y.1 = x.1
        · obtain ⟨z0, c1, c2⟩ := hso _ a4 rfl
          refine ⟨_, a4, q.symm, fun c hc => (c2 c).mpr (Or.inl ?_)⟩
          rcases c1 with c1 | ⟨_, c1⟩
          · have := rso_uniq h hy c1 q
            rw [this] at hc; exact hc
          · exact absurd q (c1 y hy)
        · exact ⟨y, a3 y hy q, rfl, fun _ h => h⟩
      have s2 : Sub [x] rows1 := fun y hy => by
        rw [List.mem_singleton.mp hy]
        obtain ⟨z0, c1, c2⟩ := hso _ a4 rfl
        exact ⟨_, a4, rfl, fun c hc => (c2 c).mpr (Or.inr hc)⟩
      refine ⟨b1, b2, b3, s1.trans b4, fun y hy => ?_, fun y hy c hc => ?_⟩
      · rcases List.mem_cons.mp hy with q | q
        · exact (s2.trans b4) y (by rw [q]; exact List.mem_singleton.mpr rfl)
        · exact b5 y q
      · obtain ⟨z, z1, z2, z3⟩ := b6 y hy c hc
        rcases z1 with z1 | z1
        · rcases a2 z z1 with ⟨c1, _⟩ | ⟨c1, _⟩
          · exact ⟨z, Or.inl c1, z2, z3⟩
          · obtain ⟨z0, d1, d2⟩ := hso z z1 c1
            rcases (d2 c).mp z3 with d3 | d3
            · rcases d1 with d1 | ⟨d1, _⟩
              · exact ⟨(x.1, z0), Or.inl d1, by rw [← z2, c1], d3⟩
              · rw [d1] at d3; cases d3
            · exact ⟨x, Or.inr (List.mem_cons_self ..), by rw [← z2, c1], d3⟩
        · exact ⟨z, Or.inr (List.mem_cons_of_mem _ z1), z2, z3⟩
/-- all that is added is among rows that have room -/
theorem rAddL_in {r' : Rws} (h' : RSo r') (hl : r'.length ≤ 32) (hp : ∀ x ∈ r', x.2.length ≤ 32) : ∀ {L rows : Rws}, RSo rows → Sub rows r' → Sub L r' → ∃ r, rAddL rows L = some r ∧ RSo r ∧ Sub r r'
  | [], rows, h, s1, s2 => ⟨rows, rfl, h, s1⟩
  | x :: L, rows, h, s1, s2 => by
    obtain ⟨y, y1, y2, y3⟩ := s2 x (List.mem_cons_self ..)
    have hM : (mons y.2).length ≤ 32 := by rw [mons, List.length_map]; exact hp y y1
    have hA : ∃ rows1, rIns x.1 x.2 rows = some rows1 := by
      by_cases q : kh x.1 rows
      · obtain ⟨w, w1, w2⟩ := (khas_iff h.1).mp q
        obtain ⟨u, u1, u2, u3⟩ := s1 w w1
        have : u = y := rso_uniq h' u1 y1 (by omega)
        subst this
        obtain ⟨zs, z1, _⟩ := pAddL_in hM (ys := x.2) (h.2 w w1) u3 y3
        have hw : rows.getD (kspot x.1 rows) (0, []) = w := rso_uniq h (getD_mem q.1) w1 (by rw [q.2, w2])
        rw [← rIns_has q, hw, z1]
        exact ⟨_, rfl⟩
      · obtain ⟨zs, z1, _⟩ := pAddL_in hM (ys := x.2) PSo.nil (fun c hc => by cases hc) y3
        rw [← rIns_not q, z1]
        exact ⟨_, rfl⟩
    obtain ⟨rows1, hA⟩ := hA
    have hR : rAdd rows x.1 x.2 = some rows1 := by
      rw [rAdd_eq]
      by_cases q : kh x.1 rows
      · rw [if_pos (Or.inl q)]; exact hA
      · have hno : ∀ w ∈ rows, w.1 ≠ x.1 := fun w hw e => q ((khas_iff h.1).mpr ⟨w, hw, e⟩)
        have hnd : (x.1 :: rows.map Prod.fst).Nodup := List.nodup_cons.mpr ⟨fun z => by
          obtain ⟨w, w1, w2⟩ := List.mem_map.mp z
          exact hno w w1 w2, by rw [List.Nodup, List.pairwise_map]; exact h.1.imp fun z => by omega⟩
        have := nodup_le (M := r'.map Prod.fst) hnd fun k hk => by
          rcases List.mem_cons.mp hk with e | e
          · rw [e, ← y2]; exact List.mem_map_of_mem y1
          · obtain ⟨w, w1, w2⟩ := List.mem_map.mp e
            obtain ⟨u, u1, u2, _⟩ := s1 w w1
            rw [← w2, ← u2]; exact List.mem_map_of_mem u1
        rw [List.length_cons, List.length_map, List.length_map] at this
        rw [if_pos (Or.inr (by omega))]; exact hA
    obtain ⟨a1, a2, a3, a4⟩ := rIns_mem h hA
    have s3 : Sub rows1 r' := fun z hz => by
      rcases a2 z hz with ⟨c1, _⟩ | ⟨c1, z0, c2, c3⟩
      · exact s1 z c1
      · refine ⟨y, y1, by omega, fun c hc => ?_⟩
        have hz0 : PSo z0 := by
          rcases c2 with c2 | ⟨c2, _⟩
          · exact h.2 _ c2
          · rw [c2]; exact PSo.nil
        rcases ((pAddL_some hz0 c3).2 c).mp hc with d | d
        · rcases c2 with c2 | ⟨c2, _⟩
          · obtain ⟨u, u1, u2, u3⟩ := s1 _ c2
            have : u = y := rso_uniq h' u1 y1 (by rw [u2, y2])
            subst this
            exact u3 c d
          · rw [c2] at d; cases d
        · exact y3 c d
    obtain ⟨r, b1, b2, b3⟩ := rAddL_in h' hl hp a1 s3 fun z hz => s2 z (List.mem_cons_of_mem _ hz)
    exact ⟨r, by rw [rAddL, hR]; exact b1, b2, b3⟩
theorem RSo.nil : RSo [] := ⟨List.Pairwise.nil, fun x h => by cases h⟩
theorem rAddL_mono {L L' r' : Rws} (h : Sub L L') (e : rAddL [] L' = some r') : ∃ r, rAddL [] L = some r ∧ RSo r ∧ Sub r r' := by
  obtain ⟨a1, a2, a3, a4, a5, a6⟩ := rAddL_abs RSo.nil (by simp) (fun x hx => by cases hx) e
  exact rAddL_in a1 a2 a3 RSo.nil (fun x hx => by cases hx) (h.trans a5)
/-- one value is within another -/
def vle (v v' : Vl) : Prop := v.1 = v'.1 ∧ Sub v.2 v'.2
theorem tabR_sub {b b' : Nat → Nat} {t : Nat} : ∀ d, d ≤ 16 → (∀ s, s < 16 → b (4 + 5 * s) = t + 1 → b' (4 + 5 * s) = t + 1 ∧ b' (5 + 5 * s) = b (5 + 5 * s)) → Sub (tabR b t d) (tabR b' t d)
  | 0, _, _ => fun x hx => by cases hx
  | d + 1, hd, h => by
    have ih := tabR_sub (b := b) (b' := b') (t := t) d (by omega) h
    unfold tabR
    by_cases q : b (4 + 5 * (15 - d)) = t + 1
    · obtain ⟨h1, h2⟩ := h (15 - d) (by omega) q
      rw [if_pos q, if_pos h1, h2]
      intro x hx
      rcases List.mem_cons.mp hx with c | c
      · exact ⟨_, List.mem_cons_self .., by rw [c], fun m hm => by rw [c] at hm; exact hm⟩
      · obtain ⟨y, y1, y2⟩ := ih x c
        exact ⟨y, List.mem_cons_of_mem _ y1, y2⟩
    · rw [if_neg q]
      intro x hx
      obtain ⟨y, y1, y2⟩ := ih x hx
      by_cases w : b' (4 + 5 * (15 - d)) = t + 1
      · rw [if_pos w]; exact ⟨y, List.mem_cons_of_mem _ y1, y2⟩
      · rw [if_neg w]; exact ⟨y, y1, y2⟩
theorem mem_pMulT {A B : Pol} {c : Int64} : c ∈ mons (pMulT A B) ↔ ∃ a ∈ mons A, ∃ d ∈ mons B, c = a + d := by
  unfold mons pMulT
  rw [List.mem_map]
  constructor
  · rintro ⟨x, x1, x2⟩
    obtain ⟨a, a1, a2⟩ := List.mem_flatMap.mp x1
    obtain ⟨d, d1, d2⟩ := List.mem_map.mp a2
    exact ⟨a.1, List.mem_map_of_mem a1, d.1, List.mem_map_of_mem d1, by rw [← x2, ← d2]⟩
  · rintro ⟨a, a1, d, d1, e⟩
    obtain ⟨a', a2, a3⟩ := List.mem_map.mp a1
    obtain ⟨d', d2, d3⟩ := List.mem_map.mp d1
    exact ⟨(a'.1 + d'.1, a'.2 * d'.2), List.mem_flatMap.mpr ⟨a', a2, List.mem_map.mpr ⟨d', d2, rfl⟩⟩, by rw [e, ← a3, ← d3]⟩
theorem mem_joinL {wa wb ca cb : Nat} {A B : Rws} {z : Nat × Pol} : z ∈ joinL wa wb ca cb A B ↔ ∃ x ∈ A, ∃ y ∈ B, dg wb y.1 cb = dg wa x.1 ca ∧ z = (x.1 * 10 ^ wb + y.1, pMulT x.2 y.2) := by
  unfold joinL joinL1
  rw [List.mem_flatMap]
  constructor
  · rintro ⟨x, x1, x2⟩
    obtain ⟨y, y1, y2⟩ := List.mem_map.mp x2
    obtain ⟨y3, y4⟩ := List.mem_filter.mp y1
    exact ⟨x, x1, y, y3, of_decide_eq_true y4, y2.symm⟩
  · rintro ⟨x, x1, y, y1, y2, y3⟩
    exact ⟨x, x1, List.mem_map.mpr ⟨y, List.mem_filter.mpr ⟨y1, decide_eq_true y2⟩, y3.symm⟩⟩
theorem opL_mono {b b' : Nat → Nat} {nd : Nd} {f f' s s' : Vl} (hb : ∀ t u, u < 16 → b (4 + 5 * u) = t + 1 → b' (4 + 5 * u) = t + 1 ∧ b' (5 + 5 * u) = b (5 + 5 * u)) (hf : nd.1 ≠ 0 → vle f f') (hs : nd.1 = 4 ∨ nd.1 = 5 → vle s s') : Sub (opL b nd f s) (opL b' nd f' s') := by
  unfold opL
  by_cases h0 : nd.1 = 0
  · rw [if_pos h0, if_pos h0]
    exact tabR_sub 16 (by omega) fun u hu => hb _ u hu
  rw [if_neg h0, if_neg h0]
  obtain ⟨f1, f2⟩ := hf h0
  by_cases h3 : nd.1 = 3
  · rw [if_pos h3, if_pos h3]
    intro x hx
    obtain ⟨y, y1, y2⟩ := List.mem_map.mp hx
    obtain ⟨z, z1, z2, z3⟩ := f2 y y1
    refine ⟨_, List.mem_map_of_mem z1, by rw [← y2, z2, f1], fun c hc => ?_⟩
    rw [← y2] at hc
    exact z3 c hc
  rw [if_neg h3, if_neg h3]
  by_cases h4 : nd.1 = 4
  · obtain ⟨s1, s2⟩ := hs (Or.inl h4)
    rw [if_pos h4, if_pos h4]
    intro z hz
    obtain ⟨x, x1, y, y1, e1, e2⟩ := mem_joinL.mp hz
    obtain ⟨x', x2, x3, x4⟩ := f2 x x1
    obtain ⟨y', y2, y3, y4⟩ := s2 y y1
    refine ⟨_, mem_joinL.mpr ⟨x', x2, y', y2, by rw [← f1, ← s1, x3, y3]; exact e1, rfl⟩, by rw [e2, x3, y3, s1], fun c hc => ?_⟩
    rw [e2] at hc
    obtain ⟨a, a1, d, d1, e⟩ := mem_pMulT.mp hc
    exact mem_pMulT.mpr ⟨a, x4 a a1, d, y4 d d1, e⟩
  rw [if_neg h4, if_neg h4]
  by_cases h5 : nd.1 = 5
  · obtain ⟨s1, s2⟩ := hs (Or.inr h5)
    rw [if_pos h5, if_pos h5]
    intro x hx
    rcases List.mem_append.mp hx with q | q
    · obtain ⟨y, y1, y2⟩ := f2 x q
      exact ⟨y, List.mem_append.mpr (Or.inl y1), y2⟩
    · obtain ⟨y, y1, y2⟩ := s2 x q
      exact ⟨y, List.mem_append.mpr (Or.inr y1), y2⟩
  rw [if_neg h5, if_neg h5]
  intro x hx
  obtain ⟨y1, y2⟩ := List.mem_filter.mp hx
  obtain ⟨z, z1, z2, z3⟩ := f2 x y1
  exact ⟨z, List.mem_filter.mpr ⟨z1, by rw [z2, ← f1]; exact y2⟩, z2, z3⟩
theorem hV_mono {b b' : Nat → Nat} {nd : Nd} {f f' s s' v' : Vl} (hb : ∀ t u, u < 16 → b (4 + 5 * u) = t + 1 → b' (4 + 5 * u) = t + 1 ∧ b' (5 + 5 * u) = b (5 + 5 * u)) (hw : nd.1 = 0 → b nd.2.1 = b' nd.2.1) (hf : nd.1 ≠ 0 → vle f f') (hs : nd.1 = 4 ∨ nd.1 = 5 → vle s s') (e : hV b' nd f' s' = some v') : ∃ v, hV b nd f s = some v ∧ vle v v' := by
  unfold hV at e ⊢
  cases hr : rAddL [] (opL b' nd f' s') with
  | none => rw [hr] at e; cases e
  | some r' =>
    rw [hr] at e
    cases e
    obtain ⟨r, r1, r2, r3⟩ := rAddL_mono (opL_mono hb hf hs) hr
    refine ⟨(opW b nd f.1 s.1, r), by rw [r1]; rfl, ?_, r3⟩
    show opW b nd f.1 s.1 = opW b' nd f'.1 s'.1
    unfold opW
    by_cases h0 : nd.1 = 0
    · rw [if_pos h0, if_pos h0]; exact hw h0
    · rw [if_neg h0, if_neg h0, (hf h0).1]
      by_cases h3 : nd.1 = 3
      · rw [if_pos h3, if_pos h3]
      · rw [if_neg h3, if_neg h3]
        by_cases h4 : nd.1 = 4
        · rw [if_pos h4, if_pos h4, (hs (Or.inl h4)).1]
        · rw [if_neg h4, if_neg h4]
/-- within, where there is a value -/
def ole (o o' : Option Vl) : Prop := ∀ v', o' = some v' → ∃ v, o = some v ∧ vle v v'
theorem vals_mono {b b' : Nat → Nat} (hb : ∀ t u, u < 16 → b (4 + 5 * u) = t + 1 → b' (4 + 5 * u) = t + 1 ∧ b' (5 + 5 * u) = b (5 + 5 * u)) : ∀ {L : List Nd}, (∀ x ∈ L, NOk x) → (∀ x ∈ L, x.1 = 0 → b x.2.1 = b' x.2.1) → ∀ i, ole ((vals (hV b) dV L).getD i none) ((vals (hV b') dV L).getD i none)
  | [], _, _, i => fun v' h => by simp [vals] at h
  | nd :: L, hn, hw, 0 => by
    have ih := vals_mono hb (L := L) (fun x hx => hn x (List.mem_cons_of_mem _ hx)) (fun x hx => hw x (List.mem_cons_of_mem _ hx))
    intro v' h
    have hk := (hn nd (List.mem_cons_self ..)).k
    have hw0 := hw nd (List.mem_cons_self ..)
    rw [vals, List.getD_cons_zero] at h ⊢
    unfold itm at h ⊢
    rcases ar_cases nd with a | a | a
    · rw [if_pos a] at h ⊢
      exact hV_mono hb hw0 (fun z => absurd (ar0 a) z) (fun z => by have := ar0 a; omega) h
    · have a1 := ar1 a
      rw [if_neg (by omega), if_pos a] at h ⊢
      cases hx : (vals (hV b') dV L).getD 0 none with
      | none => rw [hx] at h; cases h
      | some x' =>
        rw [hx] at h
        obtain ⟨x, x1, x2⟩ := ih 0 x' hx
        rw [x1]
        exact hV_mono hb hw0 (fun _ => x2) (fun z => by omega) h
    · have a2 := ar2 a
      rw [if_neg (by omega), if_neg (by omega)] at h ⊢
      cases hx : (vals (hV b') dV L).getD 0 none with
      | none => rw [hx] at h; cases h
      | some x' =>
        rw [hx] at h
        obtain ⟨x, x1, x2⟩ := ih 0 x' hx
        cases hy : (vals (hV b') dV L).getD 1 none with
        | none => rw [hy] at h; cases h
        | some y' =>
          rw [hy] at h
          obtain ⟨y, y1, y2⟩ := ih 1 y' hy
          rw [x1, y1]
          exact hV_mono hb hw0 (fun _ => x2) (fun _ => y2) h
  | nd :: L, hn, hw, i + 1 => by
    have ih := vals_mono hb (L := L) (fun x hx => hn x (List.mem_cons_of_mem _ hx)) (fun x hx => hw x (List.mem_cons_of_mem _ hx))
    rw [vals, vals, List.getD_cons_succ, List.getD_cons_succ, drop_get, drop_get]
    exact ih _
theorem qv_mono {b b' : Nat → Nat} {pre : List Nd} {v' : Vl} (hb : ∀ t u, u < 16 → b (4 + 5 * u) = t + 1 → b' (4 + 5 * u) = t + 1 ∧ b' (5 + 5 * u) = b (5 + 5 * u)) (hn : ∀ x ∈ pre, NOk x) (hw : ∀ x ∈ pre, x.1 = 0 → b x.2.1 = b' x.2.1) (e : qv b' pre = some v') : ∃ v, qv b pre = some v ∧ vle v v' := vals_mono hb hn hw 0 v' e
/-! the same tables: the same answer -/
theorem vals_cong {α : Type} {h h' : Nd → α → α → Option α} {d : α} : ∀ {L : List Nd}, (∀ x ∈ L, ∀ u v, h x u v = h' x u v) → vals h d L = vals h' d L
  | [], _ => rfl
  | nd :: L, e => by
    have ih := vals_cong (L := L) (h := h) (h' := h') (d := d) fun x hx => e x (List.mem_cons_of_mem _ hx)
    have e0 : h nd = h' nd := funext fun u => funext fun v => e nd (List.mem_cons_self ..) u v
    rw [vals, vals, ih]
    unfold itm
    rw [e0]
theorem tabR_cong {b b' : Nat → Nat} {t : Nat} : ∀ d, d ≤ 16 → (∀ s, s < 16 → b (4 + 5 * s) = b' (4 + 5 * s) ∧ b (5 + 5 * s) = b' (5 + 5 * s)) → tabR b t d = tabR b' t d
  | 0, _, _ => rfl
  | d + 1, hd, h => by
    unfold tabR
    rw [tabR_cong d (by omega) h, (h (15 - d) (by omega)).1, (h (15 - d) (by omega)).2]
theorem qw_cong {b b' : Nat → Nat} {pre : List Nd} (hw : ∀ x ∈ pre, x.1 = 0 → b x.2.1 = b' x.2.1) : qw b pre = qw b' pre := by
  unfold qw
  rw [vals_cong fun x hx u v => ?_]
  unfold hW opW
  by_cases h0 : x.1 = 0
  · rw [if_pos h0, if_pos h0, hw x hx h0]
  · rw [if_neg h0, if_neg h0]
theorem qv_cong {b b' : Nat → Nat} {pre : List Nd} (hw : ∀ x ∈ pre, x.1 = 0 → b x.2.1 = b' x.2.1) (ht : ∀ s, s < 16 → b (4 + 5 * s) = b' (4 + 5 * s) ∧ b (5 + 5 * s) = b' (5 + 5 * s)) : qv b pre = qv b' pre := by
  unfold qv
  rw [vals_cong fun x hx u v => ?_]
  unfold hV opL opW
  by_cases h0 : x.1 = 0
  · rw [if_pos h0, if_pos h0, if_pos h0, if_pos h0, hw x hx h0, tabR_cong 16 (by omega) ht]
  · rw [if_neg h0, if_neg h0, if_neg h0, if_neg h0]
theorem Prs.cong {b b' : Nat → Nat} {pre : List Nd} (h : Prs b pre) (e : ∀ k, 84 ≤ k → b' k = b k) : Prs b' pre := by
  obtain ⟨S, h⟩ := h
  have e1 : tq b' = tq b := funext fun k => by unfold tq; rw [e 84 (by omega), e (85 + k) (by omega)]
  exact ⟨S, by rw [e1, e 84 (by omega)]; exact h⟩
theorem Ans.cong {b b' : Nat → Nat} {v : Vl} (h : Ans b v) (hw : ∀ pre, Prs b pre → ∀ x ∈ pre, x.1 = 0 → b' x.2.1 = b x.2.1) (ht : ∀ s, s < 16 → b' (4 + 5 * s) = b (4 + 5 * s) ∧ b' (5 + 5 * s) = b (5 + 5 * s)) (e : ∀ k, 84 ≤ k → b' k = b k) : Ans b' v := by
  rcases h with ⟨h1, h2⟩ | ⟨h1, pre, w, h2, h3, h4⟩
  · exact Or.inl ⟨by rw [e 84 (by omega)]; exact h1, h2⟩
  · exact Or.inr ⟨by rw [e 84 (by omega)]; exact h1, pre, w, h2.cong e, by rw [qw_cong (hw pre h2)]; exact h3, by rw [qv_cong (hw pre h2) ht]; exact h4⟩
theorem Ans.drop {b b' : Nat → Nat} {v : Vl} (hB : BOk b) (h : Ans b v) (hw : ∀ t, t < 4 → b' t = b t) (ht : ∀ t u, u < 16 → b' (4 + 5 * u) = t + 1 → b (4 + 5 * u) = t + 1 ∧ b (5 + 5 * u) = b' (5 + 5 * u)) (e : ∀ k, 84 ≤ k → b' k = b k) : ∃ v', Ans b' v' := by
  rcases h with ⟨h1, h2⟩ | ⟨h1, pre, w, h2, h3, h4⟩
  · exact ⟨dV, Or.inl ⟨by rw [e 84 (by omega)]; exact h1, rfl⟩⟩
  · obtain ⟨k1, k2, k3⟩ := h2.ok hB
    have hw' : ∀ x ∈ pre, x.1 = 0 → b' x.2.1 = b x.2.1 := fun x hx h0 => hw _ (by have := k2 x hx; unfold NOk at this; omega)
    obtain ⟨v', e1, e2⟩ := qv_mono (b := b') (b' := b) ht k2 hw' h4
    exact ⟨v', Or.inr ⟨by rw [e 84 (by omega)]; exact h1, pre, w, h2.cong e, by rw [qw_cong hw']; exact h3, e1⟩⟩

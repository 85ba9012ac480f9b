/-! BASE TABLES: b is what the reference keeps of a state: widths 0..3, the row t at 4+5t (table+1 or 0, values, cost, trust, gone), 84 the query's length, 85.. its characters -/
def BOk (b : Nat → Nat) : Prop := (∀ t, t < 4 → 1 ≤ b t ∧ b t ≤ 3) ∧ (∀ t, t < 16 → b (4 + 5 * t) ≤ 4 ∧ b (8 + 5 * t) ≤ 1 ∧ b (6 + 5 * t) ≤ 999 ∧ b (7 + 5 * t) ≤ 100 ∧ (b (4 + 5 * t) ≠ 0 → b (5 + 5 * t) < 10 ^ b (b (4 + 5 * t) - 1)) ∧ (b (4 + 5 * t) = 0 → b (5 + 5 * t) = 0 ∧ b (6 + 5 * t) = 0 ∧ b (7 + 5 * t) = 0 ∧ b (8 + 5 * t) = 0)) ∧ b 84 ≤ 60 ∧ ∀ k, k < b 84 → 32 ≤ b (85 + k) ∧ b (85 + k) ≤ 126
/-- a mask of tags -/
def BM (M : Nat) (p : Nat → Bool) : Prop := M < 65536 ∧ ∀ t, t < 16 → M.testBit t = p t
def LIs (g : Mem) (a len : Nat) (c : Nat → Nat) : Prop := gI g a 1 = nI len ∧ ∀ k, k < len → gI g (a + 1) k = nI (c k)
def StIs (g : Mem) (a : Nat) (b : Nat → Nat) : Prop := (∀ t, t < 4 → gI g (a + 1) t = nI (b t)) ∧ (∀ t, t < 16 → b (4 + 5 * t) ≠ 0 → gI g (a + 2) t = nI (b (4 + 5 * t) - 1) ∧ gI g (a + 3) t = nI (pk (b (5 + 5 * t))) ∧ gI g (a + 4) t = nI (b (6 + 5 * t)) ∧ gI g (a + 5) t = nI (b (7 + 5 * t))) ∧ (∃ M, gI g a 6 = nI M ∧ BM M fun t => decide (b (4 + 5 * t) ≠ 0)) ∧ (∃ W, gI g a 7 = nI W ∧ BM W fun t => decide (b (8 + 5 * t) = 1)) ∧ LIs g (a + 6) (b 84) fun k => b (85 + k)
theorem LIs.fr {g g' : Mem} {a len lo hi : Nat} {c : Nat → Nat} (h : LIs g a len c) (hF : Fr lo hi g g') (h1 : a + 2 ≤ lo ∨ hi ≤ a) : LIs g' a len c := ⟨(hF.i (by omega) _).trans h.1, fun k hk => (hF.i (by omega) _).trans (h.2 k hk)⟩
theorem StIs.fr {g g' : Mem} {a lo hi : Nat} {b : Nat → Nat} (h : StIs g a b) (hF : Fr lo hi g g') (h1 : a + 8 ≤ lo ∨ hi ≤ a) : StIs g' a b := by
  obtain ⟨a1, a2, ⟨M, a3, a4⟩, ⟨W, a5, a6⟩, a7⟩ := h
  refine ⟨fun t ht => (hF.i (by omega) _).trans (a1 t ht), fun t ht hb => ?_, ⟨M, (hF.i (by omega) _).trans a3, a4⟩, ⟨W, (hF.i (by omega) _).trans a5, a6⟩, a7.fr hF (by omega)⟩
  obtain ⟨c1, c2, c3, c4⟩ := a2 t ht hb
  exact ⟨(hF.i (by omega) _).trans c1, (hF.i (by omega) _).trans c2, (hF.i (by omega) _).trans c3, (hF.i (by omega) _).trans c4⟩
theorem BM.bit {M t : Nat} {p : Nat → Bool} (h : BM M p) (ht : t < 16) : (nI M >>> (nI t &&& 31)) &&& 1 = if p t then 1 else 0 := by
  have h1 := h.1
  have h2 := h.2 t ht
  rw [bit_n (by omega) (by omega)]
  rw [bit_tb] at h2
  by_cases q : M / 2 ^ t % 2 = 1
  · rw [q] at h2 ⊢; rw [← h2]; rfl
  · have : M / 2 ^ t % 2 = 0 := by omega
    rw [this] at h2 ⊢; rw [← h2]; rfl
theorem s_has {n : Nat} {Z : Zt} {a t : Nat} {g : Mem} {b : Nat → Nat} (hZ : SZ Z a) (hS : StIs g a b) (ht : t < 16) : f_X8_hasTag n Z a (nI t) g = some (if b (4 + 5 * t) = 0 then 0 else 1, g) := by
  obtain ⟨M, h1, h2⟩ := hS.2.2.1
  unfold f_X8_hasTag
  rw [grd_t hZ.1.k, if_neg (fun q => by rw [not_neg (by omega)] at q; exact q)]
  simp (disch := omega) only [Lnle, if_neg]
  rw [h1, h2.bit ht]
  by_cases q : b (4 + 5 * t) = 0 <;> simp [q]
theorem s_has_out {n : Nat} {Z : Zt} {a : Nat} {x : Int32} {g : Mem} (hZ : SZ Z a) (hx : x < 0 ∨ nI 16 ≤ x) : f_X8_hasTag n Z a x g = some (0, g) := by
  unfold f_X8_hasTag
  rw [grd_t hZ.1.k]
  by_cases h : x < 0
  · rw [if_pos h]
  · rw [if_neg h, if_pos (show (16 : Int32) ≤ x from hx.resolve_left h)]
theorem s_table {n : Nat} {Z : Zt} {a t : Nat} {g : Mem} {b : Nat → Nat} (hZ : SZ Z a) (hS : StIs g a b) (ht : t < 16) : f_X8_tableAt n Z a (nI t) g = some (if b (4 + 5 * t) = 0 then -1 else nI (b (4 + 5 * t) - 1), g) := by
  have z := hZ.1
  unfold f_X8_tableAt
  rw [grd_t z.k, s_has hZ hS ht, bnd_s]
  by_cases q : b (4 + 5 * t) = 0
  · rw [if_pos q, if_pos rfl, if_pos q]
  · rw [if_neg q, if_neg (by decide), if_neg q]
    simp (disch := omega) only [z.f1, z.k1, z.l1, drf_s, grd_t, grd_true, inr_eq, clamp, (hS.2.1 t ht q).1]
theorem s_key {n : Nat} {Z : Zt} {a t : Nat} {g : Mem} {b : Nat → Nat} (hZ : SZ Z a) (hS : StIs g a b) (ht : t < 16) (hb : b (4 + 5 * t) ≠ 0) : f_X8_keyOf n Z a (nI t) g = some (nI (pk (b (5 + 5 * t))), g) := by
  have z := hZ.1
  unfold f_X8_keyOf
  rw [grd_t z.k, s_has hZ hS ht, bnd_s, if_neg hb, if_neg (by decide)]
  simp (disch := omega) only [z.f2, z.k2, z.l2, drf_s, grd_t, grd_true, inr_eq, clamp, (hS.2.1 t ht hb).2.1]
theorem s_isT {n : Nat} {Z : Zt} {t : Nat} {g : Mem} (ht : t < 4) : f_X10_isTable n Z (nI t) g = some (1, g) := by
  unfold f_X10_isTable
  simp (disch := omega) only [not_neg, if_neg, Lnle, if_false]
theorem s_width {n : Nat} {Z : Zt} {a t : Nat} {g : Mem} {b : Nat → Nat} (hZ : SZ Z a) (hS : StIs g a b) (ht : t < 4) : f_X8_widthOf n Z a (nI t) g = some (nI (b t), g) := by
  have z := hZ.1
  unfold f_X8_widthOf
  rw [grd_t z.k, s_isT ht, bnd_s, if_neg (by decide)]
  simp (disch := omega) only [z.f0, z.k0, z.l0, drf_s, grd_t, grd_true, inr_eq, clamp, hS.1 t ht]
/-! FILLING (the class); keys are packed -/
def pkR (rows : Rws) : Rws := rows.map fun x => (pk x.1, x.2)
theorem pkR_len (rows : Rws) : (pkR rows).length = rows.length := List.length_map ..
theorem pkR_get (rows : Rws) (k : Nat) (hk : k < rows.length) : (pkR rows).getD k (0, []) = (pk (rows.getD k (0, [])).1, (rows.getD k (0, [])).2) := by
  unfold pkR
  simp [List.getD, hk]
/-- the rows of a base table, from the last d tags -/
def tabR (b : Nat → Nat) (t : Nat) : Nat → Rws
  | 0 => []
  | d + 1 => if b (4 + 5 * (15 - d)) = t + 1 then (b (5 + 5 * (15 - d)), [(tagM (15 - d), 1)]) :: tabR b t d else tabR b t d
theorem SRes.of {f f' : Option (Int32 × Mem)} {g : Mem} {r w : Nat} {o : Option Rws} (h : SRes f g r w o) (e : f' = f) : SRes f' g r w o := e ▸ h
theorem fillT_l14 {n : Nat} {Z : Zt} {a r w s t : Nat} {b : Nat → Nat} (hn : 40 ≤ n) (hE : zk Z a = 1) (hZ : RZ Z r) (hZs : SZ Z s) (hb : BOk b) (hds : s + 8 ≤ r ∨ r + 99 ≤ s) (hda : a + 1 ≤ r ∨ r + 99 ≤ a) (ht : t < 4) : ∀ (d k fu : Nat) (g : Mem) (π : Nat → Nat) (rows : Rws), d = 16 - k → k ≤ 16 → d < fu → gP g a 1 = some r → RIs g r w π rows → StIs g s b →
    SRes (f_X0_fillTable_l14 n Z a fu (nI t) s (nI k) g) g r w (rAddL rows (pkR (tabR b t d))) := by
  intro d
  induction d with
  | zero =>
    intro k fu g π rows h1 h2 h3 hp hR hS
    obtain ⟨fu, rfl⟩ : ∃ q, fu = q + 1 := ⟨fu - 1, by omega⟩
    unfold f_X0_fillTable_l14
    simp (disch := omega) only [Lnle, if_pos]
    exact ⟨g, π, rfl, hR, Fr.rfl⟩
  | succ d ih =>
    intro k fu g π rows h1 h2 h3 hp hR hS
    obtain ⟨fu, rfl⟩ : ∃ q, fu = q + 1 := ⟨fu - 1, by omega⟩
    have hk : 15 - d = k := by omega
    unfold f_X0_fillTable_l14 tabR
    rw [hk]
    simp (disch := omega) only [Lnle, if_neg, s_table hZs hS (show k < 16 by omega), bnd_s]
    by_cases q : b (4 + 5 * k) = t + 1
    · have q0 : ¬ b (4 + 5 * k) = 0 := by omega
      have q1 : b (4 + 5 * k) - 1 = t := by omega
      rw [if_pos q, if_neg q0, q1, if_pos rfl, nam_s, s_key hZs hS (by omega) q0, bnd_s, hp, drf_s]
      have hW := row_with hn hZ hR (K := pk (b (5 + 5 * k))) (by have := pk_bound (b (5 + 5 * k)); omega)
      show SRes _ g r w (rAddL rows ((pk (b (5 + 5 * k)), [(tagM k, 1)]) :: pkR (tabR b t d)))
      unfold rAddL rAdd
      cases hr : rRow rows (pk (b (5 + 5 * k))) with
      | none =>
        rw [hr] at hW
        rw [hW, bnd_s, if_pos rfl]
        exact ⟨g, π, rows, rfl, hR, Fr.rfl⟩
      | some rows1 =>
        rw [hr] at hW
        obtain ⟨g', π', e, h5, h6⟩ := hW
        obtain ⟨h7, h8⟩ := rRow_spec hr
        rw [e, bnd_s, if_neg (by simp), tag_c, bnd_s, drf_s]
        have hA := add_res (m := tagM k) (f := 1) hn (h5.pz hZ h7).1 (h5.2.2.2.2.2.2 _ h7)
        refine SRes.pre (g1 := g') ?_ h6
        have hA' : ARes (f_X5_addTerm n Z (r + 3 + 3 * π' (kspot (pk (b (5 + 5 * k))) rows)) (tagM k) 1 g') g' (r + 3 + 3 * π' (kspot (pk (b (5 + 5 * k))) rows)) (pAddL (rows1.getD (kspot (pk (b (5 + 5 * k))) rows) (0, [])).2 [(tagM k, 1)]) := by
          have e0 : pAddL (rows1.getD (kspot (pk (b (5 + 5 * k))) rows) (0, [])).2 [(tagM k, 1)] = pAdd (rows1.getD (kspot (pk (b (5 + 5 * k))) rows) (0, [])).2 (tagM k) 1 := by
            simp only [pAddL]
            cases pAdd (rows1.getD (kspot (pk (b (5 + 5 * k))) rows) (0, [])).2 (tagM k) 1 <;> rfl
          rw [e0]; exact hA
        have hS' := row_poly h5 h7 h8 hA'
        revert hS'
        show SRes _ _ _ _ _ → SRes _ _ _ _ (match (match pAddL _ _ with | none => none | some zs => some _) with | none => none | some rows1 => rAddL rows1 _)
        cases pAddL (rows1.getD (kspot (pk (b (5 + 5 * k))) rows) (0, [])).2 [(tagM k, 1)] with
        | none => rintro ⟨g2, π2, z2, e2, h9, h10⟩; rw [e2, bnd_s, if_pos rfl]; exact ⟨g2, π2, z2, rfl, h9, h10⟩
        | some zs =>
          rintro ⟨g2, π2, e2, h9, h10⟩
          rw [e2, bnd_s, if_neg (by decide), nI_1]
          have h11 := h6.trans h10
          exact (ih (k + 1) fu g2 π2 _ (by omega) (by omega) (by omega) ((h11.p (by omega) _).trans hp) h9 (hS.fr h11 (by omega))).pre h10
    · rw [if_neg q]
      have hne : ¬ (if b (4 + 5 * k) = 0 then (-1 : Int32) else nI (b (4 + 5 * k) - 1)) = nI t := by
        have hb4 := (hb.2.1 k (by omega)).1
        by_cases q0 : b (4 + 5 * k) = 0
        · rw [if_pos q0]
          have H : ∀ i : Fin 4, ¬ (-1 : Int32) = nI i.1 := by decide +kernel
          exact H ⟨t, ht⟩
        · rw [if_neg q0]
          exact fun z => by have := (neq (by omega) (by omega)).mp z; omega
      rw [if_neg hne, nI_1]
      exact ih (k + 1) fu g π rows (by omega) (by omega) (by omega) hp hR hS
theorem fill_table {n : Nat} {Z : Zt} {a r s t w0 : Nat} {b : Nat → Nat} {π : Nat → Nat} {g : Mem} {rows : Rws} (hn : 40 ≤ n) (hE : zk Z a = 1) (hZ : RZ Z r) (hZs : SZ Z s) (hb : BOk b) (hds : s + 8 ≤ r ∨ r + 99 ≤ s) (hda : a + 1 ≤ r ∨ r + 99 ≤ a) (ht : t < 4) (hp : gP g a 1 = some r) (hR : RIs g r w0 π rows) (hS : StIs g s b) :
    SRes (f_X0_fillTable n Z a (nI t) s g) g r (b t) (rAddL [] (pkR (tabR b t 16))) := by
  obtain ⟨g1, e, h1, h2⟩ := r_clear (n := n) (w := b t) hZ hR
  unfold f_X0_fillTable
  rw [grd_t hE, nam_s, s_width hZs hS ht, bnd_s, hp, drf_s, e, bnd_s]
  exact (fillT_l14 hn hE hZ hZs hb hds hda ht 16 0 n g1 π [] (by omega) (by omega) (by omega) ((h2.p (by omega) _).trans hp) h1 (hS.fr h2 (by omega))).pre h2

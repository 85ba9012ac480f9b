/-! A ROW IS ADDED TO A RELATION: of both programs -/
/-- the row of a key, made if it is not there -/
def rRow (rows : Rws) (K : Nat) : Option Rws := if kspot K rows < rows.length ∧ (rows.getD (kspot K rows) (0, [])).1 = K then some rows else if rows.length < 32 then some (insAt (kspot K rows) (K, []) rows) else none
def rAdd (rows : Rws) (K : Nat) (ys : Pol) : Option Rws := match rRow rows K with
  | none => none
  | some rows1 => match pAddL (rows1.getD (kspot K rows) (0, [])).2 ys with
    | none => none
    | some zs => some (rows1.set (kspot K rows) (K, zs))
def rAddL : Rws → Rws → Option Rws
  | rows, [] => some rows
  | rows, x :: L => match rAdd rows x.1 x.2 with
    | none => none
    | some rows1 => rAddL rows1 L
theorem rAddL_app (rows u v : Rws) : rAddL rows (u ++ v) = (rAddL rows u).bind fun zs => rAddL zs v := by
  induction u generalizing rows with
  | nil => rfl
  | cons y u ih =>
    simp only [List.cons_append, rAddL]
    cases rAdd rows y.1 y.2 with
    | none => rfl
    | some zs => exact ih zs
theorem rRow_spec {rows rows1 : Rws} {K : Nat} (h : rRow rows K = some rows1) : kspot K rows < rows1.length ∧ (rows1.getD (kspot K rows) (0, [])).1 = K := by
  unfold rRow at h
  split at h
  · rename_i hk; cases h; exact hk
  · split at h
    · cases h
      have := kspot_le K rows
      refine ⟨by rw [insAt_len]; omega, ?_⟩
      rw [insAt_get _ _ _ _ this, if_neg (Nat.lt_irrefl _), if_pos rfl]
    · cases h
theorem row_with {n : Nat} {Z : Zt} {r w K : Nat} {π : Nat → Nat} {g : Mem} {rows : Rws} (hn : 40 ≤ n) (hZ : RZ Z r) (hR : RIs g r w π rows) (hK : K < 2147483648) :
    match rRow rows K with
    | none => f_X7_rowWith n Z r (nI K) g = some (none, g)
    | some rows1 => ∃ g' π', f_X7_rowWith n Z r (nI K) g = some (some (r + 3 + 3 * π' (kspot K rows)), g') ∧ RIs g' r w π' rows1 ∧ Fr r (r + 99) g g' := by
  unfold rRow
  by_cases hk : kspot K rows < rows.length ∧ (rows.getD (kspot K rows) (0, [])).1 = K
  · rw [if_pos hk]
    exact ⟨g, π, row_old hn hZ hR hK hk, hR, Fr.rfl⟩
  · rw [if_neg hk]
    by_cases hl : rows.length < 32
    · rw [if_pos hl]; exact row_new hn hZ hR hK hk hl
    · rw [if_neg hl]; exact row_full hn hZ hR hK hk hl
/-- how filling ends -/
def SRes (f : Option (Int32 × Mem)) (g : Mem) (r w : Nat) (o : Option Rws) : Prop := match o with
  | some rows => ∃ g' π, f = some (1, g') ∧ RIs g' r w π rows ∧ Fr r (r + 99) g g'
  | none => ∃ g' π rows, f = some (0, g') ∧ RIs g' r w π rows ∧ Fr r (r + 99) g g'
theorem SRes.pre {f : Option (Int32 × Mem)} {g g1 : Mem} {r w : Nat} {o : Option Rws} (h : SRes f g1 r w o) (hF : Fr r (r + 99) g g1) : SRes f g r w o := by
  cases o with
  | none => obtain ⟨g', π, zs, e, h1, h2⟩ := h; exact ⟨g', π, zs, e, h1, hF.trans h2⟩
  | some zs => obtain ⟨g', π, e, h1, h2⟩ := h; exact ⟨g', π, e, h1, hF.trans h2⟩
/-- a polynomial of a row is added to: what becomes of the relation -/
theorem row_poly {r w k K : Nat} {π : Nat → Nat} {g : Mem} {rows : Rws} {f : Option (Int32 × Mem)} {ys : Pol} (hR : RIs g r w π rows) (hk : k < rows.length) (hK : (rows.getD k (0, [])).1 = K) (hA : ARes f g (r + 3 + 3 * π k) (pAddL (rows.getD k (0, [])).2 ys)) :
    SRes f g r w (match pAddL (rows.getD k (0, [])).2 ys with | none => none | some zs => some (rows.set k (K, zs))) := by
  have hb := (hR.2.2.2.2.1 k (by have := hR.2.2.1; omega)).2
  revert hA
  cases pAddL (rows.getD k (0, [])).2 ys with
  | none =>
    rintro ⟨g', zs, e, h1, h2⟩
    have := hR.set hk h1 h2
    exact ⟨g', π, _, e, this, h2.mono (by omega) (by omega)⟩
  | some zs =>
    rintro ⟨g', e, h1, h2⟩
    have := hR.set hk h1 h2
    rw [hK] at this
    exact ⟨g', π, e, this, h2.mono (by omega) (by omega)⟩
theorem RIs.pz {Z : Zt} {g : Mem} {r w k : Nat} {π : Nat → Nat} {rows : Rws} (hR : RIs g r w π rows) (hZ : RZ Z r) (hk : k < rows.length) : PZ Z (r + 3 + 3 * π k) ∧ π k < 32 := by
  have hb := (hR.2.2.2.2.1 k (by have := hR.2.2.1; omega)).2
  exact ⟨hZ.2 _ hb, hb⟩
/-! reading a relation -/
theorem r_size {n : Nat} {Z : Zt} {r w : Nat} {π : Nat → Nat} {g : Mem} {rows : Rws} (hZ : RZ Z r) (hR : RIs g r w π rows) : f_X7_size n Z r g = some (nI rows.length, g) := by
  unfold f_X7_size
  rw [grd_t hZ.1.k, hR.2.1]
theorem r_width {n : Nat} {Z : Zt} {r w : Nat} {π : Nat → Nat} {g : Mem} {rows : Rws} (hZ : RZ Z r) (hR : RIs g r w π rows) : f_X7_width n Z r g = some (nI w, g) := by
  unfold f_X7_width
  rw [grd_t hZ.1.k, hR.1]
theorem r_has {n : Nat} {Z : Zt} {r w k : Nat} {π : Nat → Nat} {g : Mem} {rows : Rws} (hZ : RZ Z r) (hR : RIs g r w π rows) (hk : k < rows.length) : f_X7_hasRow n Z r (nI k) g = some (1, g) := by
  have := hR.2.2.1
  unfold f_X7_hasRow
  simp (disch := omega) only [grd_t, hZ.1.k, grd_true, hR.2.1, not_neg, nle, Lnle, if_neg, if_false]
theorem r_key {n : Nat} {Z : Zt} {r w k : Nat} {π : Nat → Nat} {g : Mem} {rows : Rws} (hZ : RZ Z r) (hR : RIs g r w π rows) (hk : k < rows.length) : f_X7_keyAt n Z r (nI k) g = some (nI (rows.getD k (0, [])).1, g) := by
  have := hR.2.2.1
  have h3 := (hR.2.2.2.1 k hk).1
  have z := hZ.1
  unfold f_X7_keyAt
  rw [grd_t z.k, r_has hZ hR hk, bnd_s, if_neg (by decide)]
  simp (disch := omega) only [z.f0, z.k0, z.l0, drf_s, grd_t, grd_true, inr_eq, clamp, h3]
theorem r_poly {n : Nat} {Z : Zt} {r w k : Nat} {π : Nat → Nat} {g : Mem} {rows : Rws} (hZ : RZ Z r) (hR : RIs g r w π rows) (hk : k < rows.length) : f_X7_polynomialAt n Z r (nI k) g = some (some (r + 3 + 3 * π k), g) := by
  have := hR.2.2.1
  have h3 := (hR.2.2.2.2.1 k (by omega)).1
  have z := hZ.1
  unfold f_X7_polynomialAt
  rw [grd_t z.k, r_has hZ hR hk, bnd_s, if_neg (by decide)]
  simp (disch := omega) only [z.f1, z.k1, z.l1, drf_s, grd_t, grd_true, inr_eq, clamp, h3, nam_s]
theorem r_clear {n : Nat} {Z : Zt} {r w w0 : Nat} {π : Nat → Nat} {g : Mem} {rows : Rws} (hZ : RZ Z r) (hR : RIs g r w0 π rows) : ∃ g', f_X7_clear n Z r (nI w) g = some ((), g') ∧ RIs g' r w π [] ∧ Fr r (r + 99) g g' := by
  refine ⟨sI (sI g r 2 (nI w)) r 3 0, ?_, ⟨?_, ?_, by simp, fun k hk => absurd hk (Nat.not_lt_zero _), fun j hj => hR.2.2.2.2.1 j hj, hR.2.2.2.2.2.1, fun k hk => absurd hk (Nat.not_lt_zero _)⟩, (Fr.rfl.sI (by omega) (by omega)).sI (by omega) (by omega)⟩
  · unfold f_X7_clear
    rw [grd_t hZ.1.k]
  · simp [gI_sI]
  · simp [gI_sI]; rfl
/-- addToSpare -/
theorem add_spare {n : Nat} {Z : Zt} {a r w q v k K : Nat} {π ψ : Nat → Nat} {g : Mem} {rows src : Rws} (hn : 40 ≤ n) (hE : zk Z a = 1) (hp : gP g a 1 = some r) (hZ : RZ Z r) (hZq : RZ Z q) (hd : q + 99 ≤ r ∨ r + 99 ≤ q) (hR : RIs g r w π rows) (hQ : RIs g q v ψ src) (hk : k < src.length) (hK : K < 2147483648) :
    SRes (f_X0_addToSpare n Z a (nI K) q (nI k) g) g r w (rAdd rows K (src.getD k (0, [])).2) := by
  have hW := row_with hn hZ hR hK
  unfold f_X0_addToSpare
  rw [grd_t hE, nam_s, hp, drf_s]
  unfold rAdd
  cases hr : rRow rows K with
  | none =>
    rw [hr] at hW
    rw [hW, bnd_s, r_poly hZq hQ hk, bnd_s, if_pos rfl]
    exact ⟨g, π, rows, rfl, hR, Fr.rfl⟩
  | some rows1 =>
    rw [hr] at hW
    obtain ⟨g', π', e, h1, h2⟩ := hW
    obtain ⟨h3, h4⟩ := rRow_spec hr
    have hQ' := hQ.fr h2 (by omega)
    rw [e, bnd_s, r_poly hZq hQ' hk, bnd_s, if_neg (by simp), if_neg (by simp), drf_s, drf_s]
    have hA := add_all hn (h1.pz hZ h3).1 (hQ'.pz hZq hk).1 (by have := (h1.pz hZ h3).2; have := (hQ'.pz hZq hk).2; omega) (h1.2.2.2.2.2.2 _ h3) (hQ'.2.2.2.2.2.2 _ hk)
    refine SRes.pre (g1 := g') ?_ h2
    have hS := row_poly h1 h3 h4 hA
    revert hS
    show SRes _ _ _ _ _ → SRes _ _ _ _ (match pAddL _ _ with | none => none | some zs => some _)
    cases pAddL (rows1.getD (kspot K rows) (0, [])).2 (src.getD k (0, [])).2 with
    | none => rintro ⟨g2, π2, z2, e2, h5, h6⟩; rw [e2, bnd_s, if_pos rfl]; exact ⟨g2, π2, z2, rfl, h5, h6⟩
    | some zs => rintro ⟨g2, π2, e2, h5, h6⟩; rw [e2, bnd_s, if_neg (by decide)]; exact ⟨g2, π2, rfl, h5, h6⟩

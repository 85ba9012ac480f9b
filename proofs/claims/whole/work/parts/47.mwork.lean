/-! THE REFERENCE WORKS A STEP OUT -/
/-- all relations of the pile from one on -/
def pW (m σ b j : Nat) : Prop := (b = m ∧ (j = 24 ∨ j = 25)) ∨ ((b = m + 12 ∨ b = m + 13) ∧ σ ≤ j) ∨ ((b = m + 14 ∨ b = m + 15) ∧ 32 * σ ≤ j) ∨ ((b = m + 16 ∨ b = m + 17) ∧ 1024 * σ ≤ j)
theorem pQ_W {m ρ σ b j : Nat} (h : σ ≤ ρ) (q : pQ m ρ b j) : pW m σ b j := by
  unfold pQ at q; unfold pW; omega
theorem pS_W {m ρ σ b j : Nat} (h : σ ≤ ρ) (q : pS m ρ b j) : pW m σ b j := by
  unfold pS pQ at q; unfold pW; omega
theorem pQ_nW {m ρ σ b j : Nat} (h : ρ < σ) (q : pQ m ρ b j) (hb : b ≠ m) : ¬ pW m σ b j := by
  unfold pQ at q; unfold pW; omega
def BIs (g : Mem) (m : Nat) (b : Nat → Nat) : Prop := ∀ j, j < 145 → gI g (m + 1) j = nI (b j)
theorem BIs.ch {P : Nat → Nat → Prop} {g g' : Mem} {m : Nat} {b : Nat → Nat} (h : BIs g m b) (hF : Ch P g g') (hP : ∀ j, ¬ P (m + 1) j) : BIs g' m b := fun j hj => (hF.i (hP j)).trans (h j hj)
theorem obind_cons {o : Option Rws} {x : Nat × Pol} {L : Rws} : (o.bind fun rows => rAddL rows (x :: L)) = (o.bind fun rows => rAdd rows x.1 x.2).bind fun rows => rAddL rows L := by
  cases o with
  | none => rfl
  | some rows =>
    show rAddL rows (x :: L) = (rAdd rows x.1 x.2).bind _
    cases h : rAdd rows x.1 x.2 with
    | none => simp only [rAddL, h]; rfl
    | some r => simp only [rAddL, h]; rfl
theorem obind_nil {o : Option Rws} : (o.bind fun rows => rAddL rows []) = o := by cases o <;> rfl
theorem m_of0 {n : Nat} {Z : Zt} {m k c : Nat} {b : Nat → Nat} {g : Mem} (hZ : MZ Z m) (hB : BIs g m b) (hk : k < 16) (hc : c < 5) : f_X11_of n Z m (nI k) (nI c) g = some (nI (b (4 + 5 * k + c)), g) := by
  unfold f_X11_of
  have e : ((4 : Int32) + ((5 : Int32) * nI k)) + nI c = nI (4 + 5 * k + c) := by
    rw [show ((5 : Int32) * nI k) = nI (5 * k) by rw [← mIJ]; rfl, show ((4 : Int32) + nI (5 * k)) = nI (4 + 5 * k) by rw [← nI_add]; rfl, nI_add]
  have h := hB (4 + 5 * k + c) (by omega)
  simp (disch := omega) only [hZ.k, hZ.f0, hZ.k0, hZ.l0, drf_s, grd_t, grd_true, e, inr_eq, clamp, h]
/-- a term alone comes, in a row of a key -/
theorem add_one {n : Nat} {Z : Zt} {m ρ w K : Nat} {mo f : Int64} {o : Option Rws} {g : Mem} (hn : 40 ≤ n) (hZ : MZ Z m) (hρ : ρ < 14) (hR : MS g m ρ w o) (hK : K < 2147483648) :
    ∃ r g1 g2, f_X11_rowFor n Z m (nI ρ) (nI K) g = some (r, g1) ∧ f_X11_addsTerm n Z m (nI ρ) r mo f g1 = some ((), g2) ∧ MS g2 m ρ w (o.bind fun rows => rAdd rows K [(mo, f)]) ∧ Ch (pQ m ρ) g g2 := by
  have hbig : ∀ (g1 : Mem) (rows : Rws) (r : Nat), r < rows.length → MR g1 m ρ w rows → gI g1 m 25 = 1 → ∃ g2, f_X11_addsTerm n Z m (nI ρ) (nI r) mo f g1 = some ((), g2) ∧ MS g2 m ρ w none ∧ Ch (pQ m ρ) g1 g2 := by
    intro g1 rows r hr hM h1
    obtain ⟨g2, e, c, h⟩ := mr_term (n := n) (mo := mo) (f := f) hn hZ hρ hM hr
    refine ⟨g2, e, ?_, c⟩
    cases hp : pAdd (rows.getD r (0, [])).2 mo f with
    | some zs => rw [hp] at h; exact ⟨h.2.trans h1, _, h.1⟩
    | none => rw [hp] at h; exact ⟨h.2, _, h.1⟩
  have hful : ∀ (rows : Rws), MR g m ρ w rows → rRow rows K = none → 0 < rows.length := by
    intro rows hM hr
    unfold rRow at hr
    by_cases h1 : kspot K rows < rows.length ∧ (rows.getD (kspot K rows) (0, [])).1 = K
    · rw [if_pos h1] at hr; cases hr
    · rw [if_neg h1] at hr
      by_cases h2 : rows.length < 32
      · rw [if_pos h2] at hr; cases hr
      · omega
  cases o with
  | none =>
    obtain ⟨h25, rows, hM⟩ := hR
    have h := row_for (n := n) hn hZ hρ hM hK
    cases hr : rRow rows K with
    | some rows1 =>
      rw [hr] at h
      obtain ⟨g1, a1, a2, a3, a4⟩ := h
      obtain ⟨g2, b1, b2, b3⟩ := hbig g1 rows1 _ (rRow_spec hr).1 a2 (a4.trans h25)
      exact ⟨_, g1, g2, a1, b1, b2, a3.trans b3⟩
    | none =>
      rw [hr] at h
      have hc : Ch (fun b j => b = m ∧ j = 25) g (sI g m 25 1) := Ch.rfl.sI ⟨rfl, rfl⟩
      have h1 : gI (sI g m 25 1) m 25 = 1 := by rw [gI_sI, if_pos ⟨rfl, rfl⟩]
      obtain ⟨g2, b1, b2, b3⟩ := hbig _ rows 0 (hful rows hM hr) (hM.ch hc fun b j q hb q' => hb q'.1) h1
      exact ⟨_, _, g2, h, b1, b2, (hc.mono fun b j q => Or.inl q).trans b3⟩
  | some rows =>
    obtain ⟨hM, h0⟩ := hR
    have h := row_for (n := n) hn hZ hρ hM hK
    show ∃ r g1 g2, _ ∧ _ ∧ MS g2 m ρ w (rAdd rows K [(mo, f)]) ∧ _
    unfold rAdd
    cases hr : rRow rows K with
    | some rows1 =>
      rw [hr] at h
      obtain ⟨g1, a1, a2, a3, a4⟩ := h
      obtain ⟨b1, b2⟩ := rRow_spec hr
      obtain ⟨g2, e, c, h'⟩ := mr_term (n := n) (mo := mo) (f := f) hn hZ hρ a2 b1
      refine ⟨_, g1, g2, a1, e, ?_, a3.trans c⟩
      cases hp : pAdd (rows1.getD (kspot K rows) (0, [])).2 mo f with
      | some zs =>
        rw [hp] at h'
        simp only [pAddL, hp]
        rw [b2] at h'
        exact ⟨h'.1, h'.2.trans (a4.trans h0)⟩
      | none =>
        rw [hp] at h'
        simp only [pAddL, hp]
        exact ⟨h'.2, _, h'.1⟩
    | none =>
      rw [hr] at h
      have hc : Ch (fun b j => b = m ∧ j = 25) g (sI g m 25 1) := Ch.rfl.sI ⟨rfl, rfl⟩
      have h1 : gI (sI g m 25 1) m 25 = 1 := by rw [gI_sI, if_pos ⟨rfl, rfl⟩]
      obtain ⟨g2, b1, b2, b3⟩ := hbig _ rows 0 (hful rows hM hr) (hM.ch hc fun b j q hb q' => hb q'.1) h1
      exact ⟨_, _, g2, h, b1, b2, (hc.mono fun b j q => Or.inl q).trans b3⟩
/-! pilesTable -/
theorem piles_l27 {n : Nat} {Z : Zt} {m ρ t : Nat} {b : Nat → Nat} (hn : 40 ≤ n) (hZ : MZ Z m) (hρ : ρ < 14) (hb : BOk b) (ht : t < 4) : ∀ (d k fu : Nat) (g : Mem) (o : Option Rws), d = 16 - k → k ≤ 16 → d < fu → MS g m ρ (b t) o → gI g m 24 = nI ρ → BIs g m b →
    ∃ g', f_X11_pilesTable_l27 n Z m fu (nI t) (nI k) g = some ((), g') ∧ MS g' m ρ (b t) (o.bind fun rows => rAddL rows (tabR b t d)) ∧ gI g' m 24 = nI (ρ + 1) ∧ Ch (pW m ρ) g g' := by
  intro d
  induction d with
  | zero =>
    intro k fu g o hd hk hfu hR h24 hB
    obtain ⟨fu, rfl⟩ : ∃ q, fu = q + 1 := ⟨fu - 1, by omega⟩
    have hke : k = 16 := by omega
    subst hke
    have hc : Ch (fun b j => b = m ∧ j = 24) g (sI g m 24 (nI (ρ + 1))) := Ch.rfl.sI ⟨rfl, rfl⟩
    refine ⟨sI g m 24 (nI (ρ + 1)), ?_, ?_, by rw [gI_sI, if_pos ⟨rfl, rfl⟩], hc.mono fun b j q => Or.inl ⟨q.1, Or.inl q.2⟩⟩
    · unfold f_X11_pilesTable_l27
      rw [if_pos (by decide), h24, nI_1]
    · show MS _ _ _ _ (o.bind fun rows => rAddL rows [])
      rw [obind_nil]
      exact hR.ch hc fun b j q => by unfold pQ at q; omega
  | succ d ih =>
    intro k fu g o hd hk hfu hR h24 hB
    obtain ⟨fu, rfl⟩ : ∃ q, fu = q + 1 := ⟨fu - 1, by omega⟩
    have hk16 : k < 16 := by omega
    have hd' : 15 - d = k := by omega
    have o0 := m_of0 (n := n) (c := 0) hZ hB hk16 (by omega)
    have o1 := m_of0 (n := n) (c := 1) hZ hB hk16 (by omega)
    have hbt := (hb.2.1 k hk16).1
    have e0 : f_X11_pilesTable_l27 n Z m (fu + 1) (nI t) (nI k) g = if nI (b (4 + 5 * k)) = nI (t + 1) then (bnd (f_X11_of n Z m (nI k) (nI 1) g) (fun r18 g19 => bnd (f_X11_rowFor n Z m (gI g m 24) r18 g19) (fun r21 g22 => bnd (f_X11_tagAlone n Z (nI k) g22) (fun r24 g25 => bnd (f_X11_addsTerm n Z m (gI g m 24) r21 r24 (1 : Int64) g25) (fun r27 g28 => f_X11_pilesTable_l27 n Z m fu (nI t) (nI k + 1) g28))))) else (f_X11_pilesTable_l27 n Z m fu (nI t) (nI k + 1) g) := by
      rw [f_X11_pilesTable_l27, if_neg (fun q => by have := (nle (a := 16) (b := k) (by omega) (by omega)).mp q; omega)]
      rw [show (0 : Int32) = nI 0 from rfl, show f_X11_of n Z m (nI k) (nI 0) g = _ from o0, bnd_s, nI_1 t]
      rfl
    rw [e0]
    show ∃ g', _ ∧ MS g' m ρ (b t) (o.bind fun rows => rAddL rows (if b (4 + 5 * (15 - d)) = t + 1 then (b (5 + 5 * (15 - d)), [(tagM (15 - d), 1)]) :: tabR b t d else tabR b t d)) ∧ _
    rw [hd']
    by_cases hh : b (4 + 5 * k) = t + 1
    · rw [if_pos hh, if_pos (by rw [hh])]
      have hK : b (5 + 5 * k) < 2147483648 := by
        have h1 := (hb.2.1 k hk16).2.2.2.2.1 (by omega)
        have h2 := (hb.1 (b (4 + 5 * k) - 1) (by omega)).2
        have := Nat.pow_le_pow_right (n := 10) (by omega) h2
        omega
      obtain ⟨r, g1, g2, a1, a2, a3, a4⟩ := add_one (n := n) (mo := tagM k) (f := 1) hn hZ hρ hR hK
      have o1' : f_X11_of n Z m (nI k) (nI 1) g = some (nI (b (5 + 5 * k)), g) := by rw [o1]; congr 4; omega
      rw [o1', bnd_s, h24, a1, bnd_s, tag_m hk16, bnd_s, a2, bnd_s, nI_1, obind_cons]
      obtain ⟨g', e, c1, c2, c3⟩ := ih (k + 1) fu g2 _ (by omega) (by omega) (by omega) a3 ((a4.i (by unfold pQ; omega)).trans h24) (hB.ch a4 fun j => by unfold pQ; omega)
      exact ⟨g', e, c1, c2, (a4.mono fun b j q => pQ_W (Nat.le_refl _) q).trans c3⟩
    · rw [if_neg hh, if_neg (fun q => hh ((neq (by omega) (by omega)).mp q)), nI_1]
      exact ih (k + 1) fu g o (by omega) (by omega) (by omega) hR h24 hB
/-- the relation that comes is laid empty -/
theorem lays0 {m ρ w : Nat} {g : Mem} (h0 : gI g m 25 = 0) : MS (sI (sI g (m + 12) ρ (nI w)) (m + 13) ρ (0 : Int32)) m ρ w (some []) ∧ Ch (fun b j => (b = m + 12 ∨ b = m + 13) ∧ j = ρ) g (sI (sI g (m + 12) ρ (nI w)) (m + 13) ρ (0 : Int32)) := by
  have hc : Ch (fun b j => (b = m + 12 ∨ b = m + 13) ∧ j = ρ) g (sI (sI g (m + 12) ρ (nI w)) (m + 13) ρ (0 : Int32)) := (Ch.rfl.sI ⟨Or.inl rfl, rfl⟩).sI ⟨Or.inr rfl, rfl⟩
  refine ⟨⟨⟨?_, ?_, Nat.zero_le _, fun k hk => absurd hk (Nat.not_lt_zero _)⟩, (hc.i (by omega)).trans h0⟩, hc⟩
  · simp (disch := omega) only [gI_sI, if_pos, if_neg, true_and, and_true, and_self, ↓reduceIte]
  · rw [gI_sI, if_pos ⟨rfl, rfl⟩]; rfl
theorem piles {n : Nat} {Z : Zt} {m ρ t : Nat} {b : Nat → Nat} {g : Mem} (hn : 40 ≤ n) (hZ : MZ Z m) (hρ : ρ < 14) (hb : BOk b) (ht : t < 4) (h0 : gI g m 25 = 0) (h24 : gI g m 24 = nI ρ) (hB : BIs g m b) :
    ∃ g', f_X11_pilesTable n Z m (nI t) g = some ((), g') ∧ MS g' m ρ (b t) (rAddL [] (tabR b t 16)) ∧ gI g' m 24 = nI (ρ + 1) ∧ Ch (pW m ρ) g g' := by
  obtain ⟨l1, l2⟩ := lays0 (m := m) (ρ := ρ) (w := b t) h0
  have hbt := hB t (by omega)
  have h24' : gI (sI g (m + 12) ρ (nI (b t))) m 24 = nI ρ := by
    simp (disch := omega) only [gI_sI, if_neg, h24]
  obtain ⟨g', e, c1, c2, c3⟩ := piles_l27 (n := n) hn hZ hρ hb ht 16 0 n _ _ rfl (by omega) (by omega) l1 ((l2.i (by omega)).trans h24) (hB.ch l2 fun j => by omega)
  refine ⟨g', ?_, c1, c2, (l2.mono fun b j q => by unfold pW; omega).trans c3⟩
  unfold f_X11_pilesTable
  simp (disch := omega) only [hZ.k, hZ.f0, hZ.k0, hZ.l0, hZ.f18, hZ.k18, hZ.l18, hZ.f19, hZ.k19, hZ.l19, drf_s, grd_t, grd_true, h24, inr_eq, clamp, hbt, h24']
  exact e

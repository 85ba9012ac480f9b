/-! THE REFERENCE ADDS ROWS: a relation under way, none where it is too large -/
def MS (g : Mem) (m ρ w : Nat) (o : Option Rws) : Prop := match o with
  | some rows => MR g m ρ w rows ∧ gI g m 25 = 0
  | none => gI g m 25 = 1 ∧ ∃ rows, MR g m ρ w rows
def MOp (f : Option (Unit × Mem)) (g : Mem) (m ρ w : Nat) (o : Option Rws) : Prop := ∃ g', f = some ((), g') ∧ MS g' m ρ w o ∧ Ch (pQ m ρ) g g'
theorem MOp.cong {f f' : Option (Unit × Mem)} {g : Mem} {m ρ w : Nat} {o : Option Rws} (h : MOp f g m ρ w o) (e : f' = f) : MOp f' g m ρ w o := e ▸ h
theorem MOp.pre {f : Option (Unit × Mem)} {g g1 : Mem} {m ρ w : Nat} {o : Option Rws} (h : MOp f g1 m ρ w o) (hF : Ch (pQ m ρ) g g1) : MOp f g m ρ w o := by
  obtain ⟨g', h1, h2, h3⟩ := h
  exact ⟨g', h1, h2, hF.trans h3⟩
theorem MS.ch {P : Nat → Nat → Prop} {g g' : Mem} {m ρ w : Nat} {o : Option Rws} (h : MS g m ρ w o) (hF : Ch P g g') (hP : ∀ b j, pQ m ρ b j → ¬ P b j) : MS g' m ρ w o := by
  have h25 : gI g' m 25 = gI g m 25 := hF.i (hP _ _ (Or.inl ⟨rfl, rfl⟩))
  cases o with
  | none =>
    obtain ⟨a, rows, b⟩ := h
    exact ⟨h25.trans a, rows, b.ch hF fun b j q _ => hP b j q⟩
  | some rows => exact ⟨h.1.ch hF fun b j q _ => hP b j q, h25.trans h.2⟩
theorem pR_ne {m ρ σ r b j : Nat} (hne : ρ ≠ σ) (hr : r < 32) (h : pR m (32 * ρ + r) b j) : ¬ pQ m σ b j := by
  unfold pR at h; unfold pQ; omega
theorem pT_ne {m ρ σ r b j : Nat} (hne : ρ ≠ σ) (hr : r < 32) (h : pT m (32 * ρ + r) b j) : ¬ pQ m σ b j := by
  unfold pT at h; unfold pQ; omega
/-- a term comes to a row -/
theorem mr_term {n : Nat} {Z : Zt} {m ρ w r : Nat} {mo f : Int64} {g : Mem} {rows : Rws} (hn : 40 ≤ n) (hZ : MZ Z m) (hρ : ρ < 14) (hR : MR g m ρ w rows) (hr : r < rows.length) :
    ∃ g', f_X11_addsTerm n Z m (nI ρ) (nI r) mo f g = some ((), g') ∧ Ch (pQ m ρ) g g' ∧ match pAdd (rows.getD r (0, [])).2 mo f with
      | some zs => MR g' m ρ w (rows.set r ((rows.getD r (0, [])).1, zs)) ∧ gI g' m 25 = gI g m 25
      | none => MR g' m ρ w rows ∧ gI g' m 25 = 1 := by
  have hl := hR.2.2.1
  have hx := hR.2.2.2 r hr
  have h := madd_term (n := n) (mo := mo) (f := f) hn hZ hρ (by omega) hx.2.2
  cases hp : pAdd (rows.getD r (0, [])).2 mo f with
  | some zs =>
    rw [hp] at h
    obtain ⟨g', e, a, b⟩ := h
    refine ⟨g', e, b.mono fun b j q => pT_Q (by omega) q, ?_⟩
    have hb : Ch (pR m (32 * ρ + r)) g g' := b.mono fun b j q => by unfold pT at q; unfold pR; omega
    exact ⟨hR.set hr ⟨(b.i (by unfold pT; omega)).trans hx.1, hx.2.1, a⟩ hb, b.i (by unfold pT; omega)⟩
  | none =>
    rw [hp] at h
    have hc : Ch (fun b j => b = m ∧ j = 25) g (sI g m 25 1) := Ch.rfl.sI ⟨rfl, rfl⟩
    exact ⟨_, h, hc.mono fun b j q => Or.inl q, hR.ch hc fun b j q hb q' => hb q'.1, by rw [gI_sI, if_pos ⟨rfl, rfl⟩]⟩
theorem setget {rows : Rws} {r : Nat} {x : Nat × Pol} (hr : r < rows.length) : (rows.set r x).getD r (0, []) = x := by
  rw [set_get _ _ _ _ hr, if_pos rfl]
theorem setset {rows : Rws} {r : Nat} {x y : Nat × Pol} : (rows.set r x).set r y = rows.set r y := List.set_set ..
theorem set_same {rows : Rws} {r : Nat} {x : Nat × Pol} (hr : r < rows.length) (h : rows.getD r (0, []) = x) : rows.set r x = rows := by
  induction rows generalizing r with
  | nil => exact absurd hr (Nat.not_lt_zero _)
  | cons y l ih =>
    cases r with
    | zero =>
      have h' : y = x := h
      rw [← h']; rfl
    | succ r =>
      have := ih (r := r) (by simpa using hr) h
      show y :: l.set r x = y :: l
      rw [this]
theorem mr_term' {n : Nat} {Z : Zt} {m ρ w r K : Nat} {mo f : Int64} {g : Mem} {rows : Rws} {xs : Pol} (hn : 40 ≤ n) (hZ : MZ Z m) (hρ : ρ < 14) (hr : r < rows.length) (hR : MR g m ρ w (rows.set r (K, xs))) (h0 : gI g m 25 = 0) :
    MOp (f_X11_addsTerm n Z m (nI ρ) (nI r) mo f g) g m ρ w ((pAdd xs mo f).map fun zs => rows.set r (K, zs)) := by
  obtain ⟨g', e, c, h⟩ := mr_term (n := n) (mo := mo) (f := f) hn hZ hρ hR (r := r) (by rw [List.length_set]; exact hr)
  rw [setget hr] at h
  refine ⟨g', e, ?_, c⟩
  cases hp : pAdd xs mo f with
  | some zs =>
    rw [hp] at h
    simp only [setset] at h
    exact ⟨h.1, h.2.trans h0⟩
  | none =>
    rw [hp] at h
    exact ⟨h.2, _, h.1⟩
theorem i10 : ¬ (1 : Int32) = 0 := by decide
theorem adds_l20 {n : Nat} {Z : Zt} {m ρ w r K Rs : Nat} {rows : Rws} {ys : Pol} (hn : 40 ≤ n) (hZ : MZ Z m) (hρ : ρ < 14) (hr : r < rows.length) (hs : Rs < 448) (hne : Rs / 32 ≠ ρ) : ∀ (d k fu : Nat) (g : Mem) (xs : Pol), d = ys.length - k → k ≤ ys.length → d < fu → MR g m ρ w (rows.set r (K, xs)) → gI g m 25 = 0 → MIs g m Rs ys →
    MOp (f_X11_addsRow_l20 n Z m fu (nI ρ) (nI Rs) (nI r) (nI k) g) g m ρ w ((pAddL xs (ys.drop k)).map fun zs => rows.set r (K, zs)) := by
  intro d
  induction d with
  | zero =>
    intro k fu g xs hd hk hfu hR h0 hS
    obtain ⟨fu, rfl⟩ : ∃ q, fu = q + 1 := ⟨fu - 1, by omega⟩
    have hke : k = ys.length := by omega
    subst hke
    rw [List.drop_length]
    refine ⟨g, ?_, ⟨hR, h0⟩, Ch.rfl⟩
    have h1 := hS.1
    have h2 := hS.2.1
    unfold f_X11_addsRow_l20
    simp (disch := omega) only [hZ.f21, drf_s, hZ.k21, hZ.l21, grd_t, grd_true, inr_eq, clamp, h1, nle, if_pos]
  | succ d ih =>
    intro k fu g xs hd hk hfu hR h0 hS
    obtain ⟨fu, rfl⟩ : ∃ q, fu = q + 1 := ⟨fu - 1, by omega⟩
    have h1 := hS.1
    have h2 := hS.2.1
    have h3 := (hS.2.2 k (by omega)).1
    have h4 := (hS.2.2 k (by omega)).2
    have e1 : ((32 : Int32) * nI Rs) = nI (32 * Rs) := by rw [← mIJ]; rfl
    obtain ⟨g1, t1, t2, t3⟩ := mr_term' (n := n) (mo := (ys.getD k (0, 0)).1) (f := (ys.getD k (0, 0)).2) hn hZ hρ hr hR h0
    have e0 : f_X11_addsRow_l20 n Z m (fu + 1) (nI ρ) (nI Rs) (nI r) (nI k) g = f_X11_addsRow_l20 n Z m fu (nI ρ) (nI Rs) (nI r) (nI (k + 1)) g1 := by
      rw [f_X11_addsRow_l20]
      simp (disch := omega) only [hZ.f21, hZ.f22, hZ.f23, drf_s, hZ.k21, hZ.l21, hZ.k22, hZ.l22, hZ.k23, hZ.l23, grd_t, grd_true, e1, nI_add, inr_eq, clamp, h1, nle, if_neg, if_pos h0, h3, h4, t1, bnd_s, nI_1]
    rw [e0, drop_one _ _ (0, 0) (show k < ys.length by omega)]
    show MOp _ _ _ _ _ (Option.map _ (match pAdd xs (ys.getD k (0, 0)).1 (ys.getD k (0, 0)).2 with
      | none => none
      | some zs => pAddL zs (ys.drop (k + 1))))
    have hS1 : MIs g1 m Rs ys := hS.ch t3 fun b j q => by unfold pT at q; unfold pQ; omega
    cases hp : pAdd xs (ys.getD k (0, 0)).1 (ys.getD k (0, 0)).2 with
    | some zs =>
      rw [hp] at t2
      exact (ih (k + 1) fu g1 zs (by omega) (by omega) (by omega) t2.1 t2.2 hS1).pre t3
    | none =>
      rw [hp] at t2
      have h25 : gI g1 m 25 = 1 := t2.1
      obtain ⟨fu, rfl⟩ : ∃ q, fu = q + 1 := ⟨fu - 1, by omega⟩
      refine ⟨g1, ?_, t2, t3⟩
      rw [f_X11_addsRow_l20]
      simp (disch := omega) only [hZ.f21, drf_s, hZ.k21, hZ.l21, grd_t, grd_true, inr_eq, clamp, h25]
      split
      · rfl
      · exact if_neg i10
/-- addsRow -/
theorem adds_row {n : Nat} {Z : Zt} {m ρ w K σ s : Nat} {g : Mem} {o : Option Rws} {ys : Pol} (hn : 40 ≤ n) (hZ : MZ Z m) (hρ : ρ < 14) (hσ : σ < 14) (hne : σ ≠ ρ) (hs : s < 32) (hR : MS g m ρ w o) (hK : K < 2147483648) (hS : MIs g m (32 * σ + s) ys) :
    MOp (f_X11_addsRow n Z m (nI σ) (nI s) (nI ρ) (nI K) g) g m ρ w (o.bind fun rows => rAdd rows K ys) := by
  have e1 : ((32 : Int32) * nI σ) + nI s = nI (32 * σ + s) := by rw [← nI_add, ← mIJ]; rfl
  have hbig : ∀ (g1 : Mem) (x6 : Int32), gI g1 m 25 = 1 → f_X11_addsRow_l20 n Z m n (nI ρ) (nI (32 * σ + s)) x6 (0 : Int32) g1 = some ((), g1) := by
    intro g1 x6 h1
    obtain ⟨n', hn'⟩ : ∃ q, n = q + 1 := ⟨n - 1, by omega⟩
    have e : ∀ fu, f_X11_addsRow_l20 n Z m (fu + 1) (nI ρ) (nI (32 * σ + s)) x6 (0 : Int32) g1 = some ((), g1) := by
      intro fu
      rw [f_X11_addsRow_l20]
      simp (disch := omega) only [hZ.f21, drf_s, hZ.k21, hZ.l21, grd_t, grd_true, inr_eq, clamp, h1]
      split
      · rfl
      · exact if_neg i10
    have := e n'
    rw [← hn'] at this
    exact this
  cases o with
  | none =>
    obtain ⟨h25, rows, hM⟩ := hR
    have h := row_for (n := n) hn hZ hρ hM hK
    cases hr : rRow rows K with
    | some rows1 =>
      rw [hr] at h
      obtain ⟨g1, a1, a2, a3, a4⟩ := h
      refine ⟨g1, ?_, ⟨a4.trans h25, _, a2⟩, a3⟩
      unfold f_X11_addsRow
      rw [grd_t hZ.k, a1, bnd_s, e1]
      exact hbig _ _ (a4.trans h25)
    | none =>
      rw [hr] at h
      have hc : Ch (fun b j => b = m ∧ j = 25) g (sI g m 25 1) := Ch.rfl.sI ⟨rfl, rfl⟩
      have h1 : gI (sI g m 25 1) m 25 = 1 := by rw [gI_sI, if_pos ⟨rfl, rfl⟩]
      refine ⟨_, ?_, ⟨h1, _, hM.ch hc fun b j q hb q' => hb q'.1⟩, hc.mono fun b j q => Or.inl q⟩
      unfold f_X11_addsRow
      rw [grd_t hZ.k, h, bnd_s, e1]
      exact hbig _ _ h1
  | some rows =>
    obtain ⟨hM, h0⟩ := hR
    have h := row_for (n := n) hn hZ hρ hM hK
    show MOp _ _ _ _ _ (rAdd rows K ys)
    unfold rAdd
    cases hr : rRow rows K with
    | some rows1 =>
      rw [hr] at h
      obtain ⟨g1, a1, a2, a3, a4⟩ := h
      obtain ⟨b1, b2⟩ := rRow_spec hr
      have hset : rows1.set (kspot K rows) (K, (rows1.getD (kspot K rows) (0, [])).2) = rows1 := set_same b1 (Prod.ext b2 rfl)
      have := adds_l20 (n := n) (w := w) (K := K) (Rs := 32 * σ + s) hn hZ hρ b1 (by omega) (by omega) (ys.length - 0) 0 n g1 (rows1.getD (kspot K rows) (0, [])).2 rfl (Nat.zero_le _) (by have := hS.2.1; omega) (by rw [hset]; exact a2) (a4.trans h0) (hS.ch a3 fun b j q => pT_ne hne hs q)
      rw [List.drop_zero] at this
      have := (this.pre a3).cong (f' := f_X11_addsRow n Z m (nI σ) (nI s) (nI ρ) (nI K) g) (by
        unfold f_X11_addsRow
        rw [grd_t hZ.k, a1, bnd_s, e1]
        rfl)
      cases hq : pAddL (rows1.getD (kspot K rows) (0, [])).2 ys with
      | some zs => rw [hq] at this; simp only [hq]; exact this
      | none => rw [hq] at this; simp only [hq]; exact this
    | none =>
      rw [hr] at h
      have hc : Ch (fun b j => b = m ∧ j = 25) g (sI g m 25 1) := Ch.rfl.sI ⟨rfl, rfl⟩
      have h1 : gI (sI g m 25 1) m 25 = 1 := by rw [gI_sI, if_pos ⟨rfl, rfl⟩]
      refine ⟨_, ?_, ⟨h1, _, hM.ch hc fun b j q hb q' => hb q'.1⟩, hc.mono fun b j q => Or.inl q⟩
      unfold f_X11_addsRow
      rw [grd_t hZ.k, h, bnd_s, e1]
      exact hbig _ _ h1
/-! multiplies -/
theorem mult_l35 {n : Nat} {Z : Zt} {m ρ w r K Ra Rb i : Nat} {rows : Rws} {A B : Pol} {κ : Int32 → Int32 → Int32 → Int32 → Mem → Option (Unit × Mem)} (hn : 40 ≤ n) (hZ : MZ Z m) (hρ : ρ < 14) (hr : r < rows.length) (ha : Ra < 448) (hb : Rb < 448) (hna : Ra / 32 ≠ ρ) (hnb : Rb / 32 ≠ ρ) (hi : i < A.length) : ∀ (d k fu : Nat) (g : Mem) (xs : Pol), d = B.length - k → k ≤ B.length → d < fu → MR g m ρ w (rows.set r (K, xs)) → gI g m 25 = 0 → gI g m 24 = nI ρ → MIs g m Ra A → MIs g m Rb B →
    ∃ g', f_X11_multiplies_l35 n Z κ m fu (nI Ra) (nI Rb) (nI r) (nI i) (nI k) g = κ (nI Ra) (nI Rb) (nI r) (nI i + 1) g' ∧ MS g' m ρ w ((pAddL xs ((B.drop k).map fun b => ((A.getD i (0, 0)).1 + b.1, (A.getD i (0, 0)).2 * b.2))).map fun zs => rows.set r (K, zs)) ∧ Ch (pQ m ρ) g g' := by
  intro d
  induction d with
  | zero =>
    intro k fu g xs hd hk hfu hR h0 ht hA hB
    obtain ⟨fu, rfl⟩ : ∃ q, fu = q + 1 := ⟨fu - 1, by omega⟩
    have hke : k = B.length := by omega
    subst hke
    rw [List.drop_length]
    refine ⟨g, ?_, ⟨hR, h0⟩, Ch.rfl⟩
    have h1 := hB.1
    have h2 := hB.2.1
    unfold f_X11_multiplies_l35
    simp (disch := omega) only [hZ.f21, drf_s, hZ.k21, hZ.l21, grd_t, grd_true, inr_eq, clamp, h1, nle, if_pos]
  | succ d ih =>
    intro k fu g xs hd hk hfu hR h0 ht hA hB
    obtain ⟨fu, rfl⟩ : ∃ q, fu = q + 1 := ⟨fu - 1, by omega⟩
    have h1 := hB.1
    have h2 := hB.2.1
    have h3 := (hB.2.2 k (by omega)).1
    have h4 := (hB.2.2 k (by omega)).2
    have a2 := hA.2.1
    have a3 := (hA.2.2 i hi).1
    have a4 := (hA.2.2 i hi).2
    have e1 : ((32 : Int32) * nI Ra) = nI (32 * Ra) := by rw [← mIJ]; rfl
    have e2 : ((32 : Int32) * nI Rb) = nI (32 * Rb) := by rw [← mIJ]; rfl
    obtain ⟨g1, t1, t2, t3⟩ := mr_term' (n := n) (mo := (A.getD i (0, 0)).1 + (B.getD k (0, 0)).1) (f := (A.getD i (0, 0)).2 * (B.getD k (0, 0)).2) hn hZ hρ hr hR h0
    have e0 : f_X11_multiplies_l35 n Z κ m (fu + 1) (nI Ra) (nI Rb) (nI r) (nI i) (nI k) g = f_X11_multiplies_l35 n Z κ m fu (nI Ra) (nI Rb) (nI r) (nI i) (nI (k + 1)) g1 := by
      rw [f_X11_multiplies_l35]
      simp (disch := omega) only [hZ.f21, hZ.f22, hZ.f23, drf_s, hZ.k21, hZ.l21, hZ.k22, hZ.l22, hZ.k23, hZ.l23, grd_t, grd_true, e1, e2, nI_add, inr_eq, clamp, h1, nle, if_neg, if_pos h0, h3, h4, a3, a4, ht, t1, bnd_s, nI_1]
    rw [e0, drop_one _ _ (0, 0) (show k < B.length by omega), List.map_cons]
    show ∃ g', _ ∧ MS g' _ _ _ (Option.map _ (match pAdd xs ((A.getD i (0, 0)).1 + (B.getD k (0, 0)).1) ((A.getD i (0, 0)).2 * (B.getD k (0, 0)).2) with
      | none => none
      | some zs => pAddL zs ((B.drop (k + 1)).map fun b => ((A.getD i (0, 0)).1 + b.1, (A.getD i (0, 0)).2 * b.2)))) ∧ _
    have hA1 : MIs g1 m Ra A := hA.ch t3 fun b j q => by unfold pT at q; unfold pQ; omega
    have hB1 : MIs g1 m Rb B := hB.ch t3 fun b j q => by unfold pT at q; unfold pQ; omega
    cases hp : pAdd xs ((A.getD i (0, 0)).1 + (B.getD k (0, 0)).1) ((A.getD i (0, 0)).2 * (B.getD k (0, 0)).2) with
    | some zs =>
      rw [hp] at t2
      obtain ⟨g2, b1, b2, b3⟩ := ih (k + 1) fu g1 zs (by omega) (by omega) (by omega) t2.1 t2.2 ((t3.i (by unfold pQ; omega)).trans ht) hA1 hB1
      exact ⟨g2, b1, b2, t3.trans b3⟩
    | none =>
      rw [hp] at t2
      have h25 : gI g1 m 25 = 1 := t2.1
      obtain ⟨fu, rfl⟩ : ∃ q, fu = q + 1 := ⟨fu - 1, by omega⟩
      refine ⟨g1, ?_, t2, t3⟩
      rw [f_X11_multiplies_l35]
      simp (disch := omega) only [hZ.f21, drf_s, hZ.k21, hZ.l21, grd_t, grd_true, inr_eq, clamp, h25]
      split
      · rfl
      · exact if_neg i10
theorem mult_big {n fu : Nat} {Z : Zt} {m Ra : Nat} {x2 x4 x5 : Int32} {g : Mem} (hZ : MZ Z m) (ha : Ra < 448) (h1 : gI g m 25 = 1) : f_X11_multiplies_l14 n Z m (fu + 1) (nI Ra) x2 x4 x5 g = some ((), g) := by
  rw [f_X11_multiplies_l14]
  simp (disch := omega) only [hZ.f21, drf_s, hZ.k21, hZ.l21, grd_t, grd_true, inr_eq, clamp, h1]
  split
  · rfl
  · exact if_neg i10
theorem mult_l14 {n : Nat} {Z : Zt} {m ρ w r K Ra Rb : Nat} {rows : Rws} {A B : Pol} (hn : 40 ≤ n) (hZ : MZ Z m) (hρ : ρ < 14) (hr : r < rows.length) (ha : Ra < 448) (hb : Rb < 448) (hna : Ra / 32 ≠ ρ) (hnb : Rb / 32 ≠ ρ) : ∀ (d i fu : Nat) (g : Mem) (xs : Pol), d = A.length - i → i ≤ A.length → d < fu → MR g m ρ w (rows.set r (K, xs)) → gI g m 25 = 0 → gI g m 24 = nI ρ → MIs g m Ra A → MIs g m Rb B →
    MOp (f_X11_multiplies_l14 n Z m fu (nI Ra) (nI Rb) (nI r) (nI i) g) g m ρ w ((pAddL xs (pMulT (A.drop i) B)).map fun zs => rows.set r (K, zs)) := by
  intro d
  induction d with
  | zero =>
    intro i fu g xs hd hk hfu hR h0 ht hA hB
    obtain ⟨fu, rfl⟩ : ∃ q, fu = q + 1 := ⟨fu - 1, by omega⟩
    have hke : i = A.length := by omega
    subst hke
    rw [List.drop_length]
    refine ⟨g, ?_, ⟨hR, h0⟩, Ch.rfl⟩
    have h1 := hA.1
    have h2 := hA.2.1
    unfold f_X11_multiplies_l14
    simp (disch := omega) only [hZ.f21, drf_s, hZ.k21, hZ.l21, grd_t, grd_true, inr_eq, clamp, h1, nle, if_pos]
  | succ d ih =>
    intro i fu g xs hd hk hfu hR h0 ht hA hB
    obtain ⟨fu, rfl⟩ : ∃ q, fu = q + 1 := ⟨fu - 1, by omega⟩
    have h1 := hA.1
    have h2 := hA.2.1
    obtain ⟨g1, t1, t2, t3⟩ := mult_l35 (n := n) (w := w) (K := K) (κ := fun y0 y1 y2 y3 y => f_X11_multiplies_l14 n Z m fu y0 y1 y2 y3 y) hn hZ hρ hr ha hb hna hnb (i := i) (by omega) (B.length - 0) 0 n g xs rfl (Nat.zero_le _) (by have := hB.2.1; omega) hR h0 ht hA hB
    rw [List.drop_zero] at t2
    have e0 : f_X11_multiplies_l14 n Z m (fu + 1) (nI Ra) (nI Rb) (nI r) (nI i) g = f_X11_multiplies_l14 n Z m fu (nI Ra) (nI Rb) (nI r) (nI (i + 1)) g1 := by
      rw [f_X11_multiplies_l14]
      simp (disch := omega) only [hZ.f21, drf_s, hZ.k21, hZ.l21, grd_t, grd_true, inr_eq, clamp, h1, nle, if_neg, if_pos h0]
      refine Eq.trans t1 ?_
      simp only [nI_1, nI_add]
    rw [e0, drop_one _ _ (0, 0) (show i < A.length by omega)]
    show MOp _ _ _ _ _ (Option.map _ (pAddL xs (_ ++ pMulT (A.drop (i + 1)) B)))
    rw [pAddL_app]
    have hA1 : MIs g1 m Ra A := hA.ch t3 fun b j q => by unfold pT at q; unfold pQ; omega
    have hB1 : MIs g1 m Rb B := hB.ch t3 fun b j q => by unfold pT at q; unfold pQ; omega
    cases hp : pAddL xs (B.map fun b => ((A.getD i (0, 0)).1 + b.1, (A.getD i (0, 0)).2 * b.2)) with
    | some zs =>
      rw [hp] at t2
      exact (ih (i + 1) fu g1 zs (by omega) (by omega) (by omega) t2.1 t2.2 ((t3.i (by unfold pQ; omega)).trans ht) hA1 hB1).pre t3
    | none =>
      rw [hp] at t2
      obtain ⟨fu, rfl⟩ : ∃ q, fu = q + 1 := ⟨fu - 1, by omega⟩
      exact ⟨g1, mult_big hZ ha t2.1, t2, t3⟩
theorem mults {n : Nat} {Z : Zt} {m ρ w K Ra Rb : Nat} {g : Mem} {o : Option Rws} {A B : Pol} (hn : 40 ≤ n) (hZ : MZ Z m) (hρ : ρ < 14) (ha : Ra < 448) (hb : Rb < 448) (hna : Ra / 32 ≠ ρ) (hnb : Rb / 32 ≠ ρ) (hR : MS g m ρ w o) (hK : K < 2147483648) (ht : gI g m 24 = nI ρ) (hA : MIs g m Ra A) (hB : MIs g m Rb B) :
    MOp (f_X11_multiplies n Z m (nI Ra) (nI Rb) (nI K) g) g m ρ w (o.bind fun rows => rAdd rows K (pMulT A B)) := by
  obtain ⟨n', hn'⟩ : ∃ q, n = q + 1 := ⟨n - 1, by omega⟩
  have hbig : ∀ (g1 : Mem) (x4 : Int32), gI g1 m 25 = 1 → f_X11_multiplies_l14 n Z m n (nI Ra) (nI Rb) x4 (0 : Int32) g1 = some ((), g1) := by
    intro g1 x4 h1
    have := mult_big (n := n) (fu := n') (x2 := nI Rb) (x4 := x4) (x5 := 0) hZ ha h1
    rw [← hn'] at this
    exact this
  cases o with
  | none =>
    obtain ⟨h25, rows, hM⟩ := hR
    have h := row_for (n := n) hn hZ hρ hM hK
    cases hr : rRow rows K with
    | some rows1 =>
      rw [hr] at h
      obtain ⟨g1, a1, a2, a3, a4⟩ := h
      refine ⟨g1, ?_, ⟨a4.trans h25, _, a2⟩, a3⟩
      unfold f_X11_multiplies
      rw [grd_t hZ.k, ht, a1, bnd_s]
      exact hbig _ _ (a4.trans h25)
    | none =>
      rw [hr] at h
      have hc : Ch (fun b j => b = m ∧ j = 25) g (sI g m 25 1) := Ch.rfl.sI ⟨rfl, rfl⟩
      have h1 : gI (sI g m 25 1) m 25 = 1 := by rw [gI_sI, if_pos ⟨rfl, rfl⟩]
      refine ⟨_, ?_, ⟨h1, _, hM.ch hc fun b j q hb q' => hb q'.1⟩, hc.mono fun b j q => Or.inl q⟩
      unfold f_X11_multiplies
      rw [grd_t hZ.k, ht, h, bnd_s]
      exact hbig _ _ h1
  | some rows =>
    obtain ⟨hM, h0⟩ := hR
    have h := row_for (n := n) hn hZ hρ hM hK
    show MOp _ _ _ _ _ (rAdd rows K _)
    unfold rAdd
    cases hr : rRow rows K with
    | some rows1 =>
      rw [hr] at h
      obtain ⟨g1, a1, a2, a3, a4⟩ := h
      obtain ⟨b1, b2⟩ := rRow_spec hr
      have hset : rows1.set (kspot K rows) (K, (rows1.getD (kspot K rows) (0, [])).2) = rows1 := set_same b1 (Prod.ext b2 rfl)
      have := mult_l14 (n := n) (w := w) (K := K) (Ra := Ra) (Rb := Rb) hn hZ hρ b1 ha hb hna hnb (A.length - 0) 0 n g1 (rows1.getD (kspot K rows) (0, [])).2 rfl (Nat.zero_le _) (by have := hA.2.1; omega) (by rw [hset]; exact a2) (a4.trans h0) ((a3.i (by unfold pQ; omega)).trans ht) (hA.ch a3 fun b j q => by unfold pT at q; unfold pQ; omega) (hB.ch a3 fun b j q => by unfold pT at q; unfold pQ; omega)
      rw [List.drop_zero] at this
      have := (this.pre a3).cong (f' := f_X11_multiplies n Z m (nI Ra) (nI Rb) (nI K) g) (by
        unfold f_X11_multiplies
        rw [grd_t hZ.k, ht, a1, bnd_s]
        rfl)
      cases hq : pAddL (rows1.getD (kspot K rows) (0, [])).2 (pMulT A B) with
      | some zs => rw [hq] at this; simp only [hq]; exact this
      | none => rw [hq] at this; simp only [hq]; exact this
    | none =>
      rw [hr] at h
      have hc : Ch (fun b j => b = m ∧ j = 25) g (sI g m 25 1) := Ch.rfl.sI ⟨rfl, rfl⟩
      have h1 : gI (sI g m 25 1) m 25 = 1 := by rw [gI_sI, if_pos ⟨rfl, rfl⟩]
      refine ⟨_, ?_, ⟨h1, _, hM.ch hc fun b j q hb q' => hb q'.1⟩, hc.mono fun b j q => Or.inl q⟩
      unfold f_X11_multiplies
      rw [grd_t hZ.k, ht, h, bnd_s]
      exact hbig _ _ h1
/-! replaces -/
def pS (m ρ b j : Nat) : Prop := pQ m ρ b j ∨ (b = m ∧ j = 24)
theorem repl_l39 {n : Nat} {Z : Zt} {m ρ w to : Nat} {rows : Rws} {g0 : Mem} (hn : 40 ≤ n) (hZ : MZ Z m) (hρ : ρ < 14) (hto : to < ρ) (hR : MR g0 m ρ w rows) (ht : gI g0 m 24 = nI ρ) : ∀ (d k fu : Nat) (g : Mem), d = rows.length - k → k ≤ rows.length → d < fu → Ch (pQ m to) g0 g → gI g m 25 = gI g0 m 25 → gI g (m + 12) to = nI w → gI g (m + 13) to = nI rows.length → (∀ j, j < k → RowAt g m (32 * to + j) (rows.getD j (0, []))) →
    ∃ g', f_X11_replaces_l39 n Z m fu (nI to) (nI k) g = some ((), g') ∧ MR g' m to w rows ∧ gI g' m 24 = nI (to + 1) ∧ gI g' m 25 = gI g0 m 25 ∧ Ch (pS m to) g0 g' := by
  intro d
  induction d with
  | zero =>
    intro k fu g hd hk hfu hF h25 a1 a2 a3
    obtain ⟨fu, rfl⟩ : ∃ q, fu = q + 1 := ⟨fu - 1, by omega⟩
    have hke : k = rows.length := by omega
    subst hke
    have ht' : gI g m 24 = nI ρ := (hF.i (by unfold pQ; omega)).trans ht
    have hl' : gI g (m + 13) ρ = nI rows.length := (hF.i (by unfold pQ; omega)).trans hR.2.1
    have hl := hR.2.2.1
    have hc : Ch (fun b j => b = m ∧ j = 24) g (sI g m 24 (nI (to + 1))) := Ch.rfl.sI ⟨rfl, rfl⟩
    refine ⟨sI g m 24 (nI (to + 1)), ?_, ?_, by rw [gI_sI, if_pos ⟨rfl, rfl⟩], (hc.i (by omega)).trans h25, (hF.mono fun b j q => Or.inl q).trans (hc.mono fun b j q => Or.inr q)⟩
    · unfold f_X11_replaces_l39
      simp (disch := omega) only [hZ.f19, drf_s, hZ.k19, hZ.l19, grd_t, grd_true, ht', inr_eq, clamp, hl', nle, if_pos, nI_1, nI_add]
    · exact MR.ch (g := g) ⟨a1, a2, hl, a3⟩ hc fun b j _ q1 q2 => q1 q2.1
  | succ d ih =>
    intro k fu g hd hk hfu hF h25 a1 a2 a3
    obtain ⟨fu, rfl⟩ : ∃ q, fu = q + 1 := ⟨fu - 1, by omega⟩
    have ht' : gI g m 24 = nI ρ := (hF.i (by unfold pQ; omega)).trans ht
    have hl' : gI g (m + 13) ρ = nI rows.length := (hF.i (by unfold pQ; omega)).trans hR.2.1
    have hl := hR.2.2.1
    obtain ⟨g1, e1, r1, c1⟩ := copies_row (n := n) (from_ := ρ) (row := k) (to := to) (at_ := k) hn hZ (by omega) (by omega) (by omega) ((hR.2.2.2 k (by omega)).ch hF fun b j q => pR_ne (by omega) (by omega) q)
    have e0 : f_X11_replaces_l39 n Z m (fu + 1) (nI to) (nI k) g = f_X11_replaces_l39 n Z m fu (nI to) (nI (k + 1)) g1 := by
      rw [f_X11_replaces_l39]
      simp (disch := omega) only [hZ.f19, drf_s, hZ.k19, hZ.l19, grd_t, grd_true, ht', inr_eq, clamp, hl', nle, if_neg, e1, bnd_s, nI_1, nI_add]
    rw [e0]
    refine ih (k + 1) fu g1 (by omega) (by omega) (by omega) (hF.trans (c1.mono fun b j q => pR_Q (by omega) q)) ((c1.i (by unfold pR; omega)).trans h25) ((c1.i (by unfold pR; omega)).trans a1) ((c1.i (by unfold pR; omega)).trans a2) fun j hj => ?_
    by_cases hjk : j = k
    · subst hjk; exact r1
    · exact (a3 j (by omega)).ch c1 fun b j q => by unfold pR at q ⊢; omega
theorem replaces_ {n : Nat} {Z : Zt} {m ρ w had : Nat} {rows : Rws} {g : Mem} (hn : 40 ≤ n) (hZ : MZ Z m) (hρ : ρ < 14) (h1 : 1 ≤ had) (h2 : had ≤ ρ) (hR : MR g m ρ w rows) (ht : gI g m 24 = nI ρ) :
    ∃ g', f_X11_replaces n Z m (nI had) g = some ((), g') ∧ MR g' m (ρ - had) w rows ∧ gI g' m 24 = nI (ρ - had + 1) ∧ gI g' m 25 = gI g m 25 ∧ Ch (pS m (ρ - had)) g g' := by
  obtain ⟨p1, p2, p3, p4⟩ := id hR
  have hc : Ch (fun b j => (b = m + 12 ∨ b = m + 13) ∧ j = ρ - had) g (sI (sI g (m + 12) (ρ - had) (nI w)) (m + 13) (ρ - had) (nI rows.length)) := (Ch.rfl.sI ⟨Or.inl rfl, rfl⟩).sI ⟨Or.inr rfl, rfl⟩
  obtain ⟨g', e, a, b, c, d⟩ := repl_l39 (n := n) (to := ρ - had) hn hZ hρ (by omega) hR ht (rows.length - 0) 0 n (sI (sI g (m + 12) (ρ - had) (nI w)) (m + 13) (ρ - had) (nI rows.length)) rfl (Nat.zero_le _) (by omega) (hc.mono fun b j q => by unfold pQ; omega) (hc.i (by omega)) (by simp (disch := omega) only [gI_sI, if_pos, if_neg, true_and, and_true, and_self, ↓reduceIte]) (by simp (disch := omega) only [gI_sI, if_pos, if_neg, true_and, and_true, and_self, ↓reduceIte]) fun j hj => by omega
  refine ⟨g', ?_, a, b, c, d⟩
  unfold f_X11_replaces
  have e2 : nI ρ - nI had = nI (ρ - had) := subN h2
  simp (disch := omega) only [hZ.k, hZ.f18, hZ.f19, drf_s, hZ.k18, hZ.l18, hZ.k19, hZ.l19, grd_t, grd_true, ht, e2, inr_eq, clamp, p1, p2, gI_sI, if_neg]
  exact e
/-- .. of a relation that may be too large -/
theorem replacesO {n : Nat} {Z : Zt} {m ρ w had : Nat} {o : Option Rws} {g : Mem} (hn : 40 ≤ n) (hZ : MZ Z m) (hρ : ρ < 14) (h1 : 1 ≤ had) (h2 : had ≤ ρ) (hR : MS g m ρ w o) (ht : gI g m 24 = nI ρ) :
    ∃ g', f_X11_replaces n Z m (nI had) g = some ((), g') ∧ MS g' m (ρ - had) w o ∧ gI g' m 24 = nI (ρ - had + 1) ∧ Ch (pS m (ρ - had)) g g' := by
  cases o with
  | none =>
    obtain ⟨h25, rows, hM⟩ := hR
    obtain ⟨g', e, a, b, c, d⟩ := replaces_ (n := n) hn hZ hρ h1 h2 hM ht
    exact ⟨g', e, ⟨c.trans h25, rows, a⟩, b, d⟩
  | some rows =>
    obtain ⟨hM, h0⟩ := hR
    obtain ⟨g', e, a, b, c, d⟩ := replaces_ (n := n) hn hZ hρ h1 h2 hM ht
    exact ⟨g', e, ⟨a, c.trans h0⟩, b, d⟩

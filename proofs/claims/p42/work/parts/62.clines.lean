/-! LINES (the class) -/
theorem isz_01 (b : Bool) : isz (if b then (1 : Int32) else 0) := by cases b <;> decide
theorem l_len {n : Nat} {Z : Zt} {a r : Nat} {g : Mem} (hZ : LZ Z a r) : f_X3_length n Z a g = some (gI g a 1, g) := by
  unfold f_X3_length; rw [grd_t hZ.1]
theorem l_clear {n : Nat} {Z : Zt} {a r : Nat} {g : Mem} (hZ : LZ Z a r) : f_X3_clear n Z a g = some ((), sI g a 1 0) := by
  unfold f_X3_clear; rw [grd_t hZ.1]
theorem l_clear_is {a : Nat} {g : Mem} {c : Nat → Nat} : LIs (sI g a 1 0) a 0 c ∧ Fr a (a + 2) g (sI g a 1 0) :=
  ⟨⟨by simp [gI_sI]; rfl, fun k hk => absurd hk (Nat.not_lt_zero _)⟩, Fr.rfl.sI (by omega) (by omega)⟩
theorem l_code {n : Nat} {Z : Zt} {a r len k : Nat} {c : Nat → Nat} {g : Mem} (hZ : LZ Z a r) (hr : r < 2147483648) (hl : len ≤ r) (h : LIs g a len c) (hk : k < len) : f_X3_codeAt n Z a (nI k) g = some (nI (c k), g) := by
  obtain ⟨z1, z2, z3, z4⟩ := hZ
  unfold f_X3_codeAt
  rw [grd_t z1, if_neg (fun q => by rw [not_neg (by omega)] at q; exact q), h.1, if_neg (fun q => by have := (nle (by omega) (by omega)).mp q; omega)]
  have e1 : (nI k < Int32.ofNat r) = True := eq_true ((nlt (by omega) (by omega)).mpr (by omega))
  simp (disch := omega) only [z2, drf_s, grd_t, grd_true, inr_eq, z3, z4, clamp, h.2 k hk, e1, if_true]
theorem l_code_out {n : Nat} {Z : Zt} {a r len : Nat} {c : Nat → Nat} {g : Mem} {x : Int32} (hZ : LZ Z a r) (h : LIs g a len c) (hx : x < 0 ∨ nI len ≤ x) : f_X3_codeAt n Z a x g = some (-1, g) := by
  unfold f_X3_codeAt
  rw [grd_t hZ.1]
  by_cases q : x < 0
  · rw [if_pos q]
  · rw [if_neg q, h.1, if_pos (hx.resolve_left q)]
theorem nar_c {x : Nat} (hx : x < 65536) : vp_nar .char (nI x) = nI x := by
  unfold vp_nar; rw [(pk_charN hx).1]
theorem l_add {n : Nat} {Z : Zt} {a r len x : Nat} {c : Nat → Nat} {g : Mem} (hZ : LZ Z a r) (hr : r < 2147483648) (h : LIs g a len c) (hl : len < r) (hx : x < 65536) : ∃ g', f_X3_add n Z a (nI x) g = some (1, g') ∧ LIs g' a (len + 1) (fun k => if k = len then x else c k) ∧ Fr a (a + 2) g g' := by
  obtain ⟨z1, z2, z3, z4⟩ := hZ
  refine ⟨sI (sI g (a + 1) len (nI x)) a 1 (nI (len + 1)), ?_, ⟨by simp [gI_sI], fun k hk => ?_⟩, (Fr.rfl.sI (by omega) (by omega)).sI (by omega) (by omega)⟩
  · unfold f_X3_add
    rw [grd_t z1, h.1, if_neg (fun q => by rw [not_neg (by omega)] at q; exact q)]
    have e1 : (nI len < Int32.ofNat r) = True := eq_true ((nlt (by omega) (by omega)).mpr (by omega))
    have e2 : gI (sI g (a + 1) len (nI x)) a 1 = nI len := by rw [gI_sI, if_neg (by omega)]; exact h.1
    simp (disch := omega) only [z2, drf_s, grd_t, grd_true, inr_eq, z3, z4, clamp, e1, if_true, nar_c hx, e2, nI_1]
  · simp (disch := omega) only [gI_sI, if_neg]
    by_cases q : k = len
    · simp [q]
    · rw [if_neg (fun z => q z.2), if_neg q]; exact h.2 k (by omega)
theorem l_full {n : Nat} {Z : Zt} {a r : Nat} {c : Nat → Nat} {g : Mem} {x : Int32} (hZ : LZ Z a r) (hr : r < 2147483648) (h : LIs g a r c) : f_X3_add n Z a x g = some (0, g) := by
  obtain ⟨z1, z2, z3, z4⟩ := hZ
  unfold f_X3_add
  rw [grd_t z1, h.1, if_neg (fun q => by rw [not_neg (by omega)] at q; exact q)]
  have e1 : (nI r < Int32.ofNat r) = False := eq_false (fun q => by have := (nlt (by omega) (by omega)).mp q; omega)
  simp (disch := omega) only [z2, drf_s, grd_t, grd_true, z3, z4, e1, if_false]
theorem LIs.cong {g : Mem} {a len : Nat} {c c' : Nat → Nat} (h : LIs g a len c) (e : ∀ k, k < len → c k = c' k) : LIs g a len c' := ⟨h.1, fun k hk => by rw [h.2 k hk, e k hk]⟩
theorem ch16 {x : Nat} (hx : x < 65536) : ((nI x).toUInt32 % 65536).toInt32 = nI x := by
  rw [pk_char, pk_tn (by omega), Nat.mod_eq_of_lt hx]
theorem l_copy6 {n : Nat} {Z : Zt} {a q r r2 len : Nat} {c : Nat → Nat} (hZ : LZ Z a r) (hZq : LZ Z q r2) (hr : r < 2147483648) (hr2 : r2 < 2147483648) (hl : len ≤ r) (hl2 : len ≤ r2) (hd : q + 2 ≤ a ∨ a + 2 ≤ q) (hc : ∀ k, k < len → c k < 65536) : ∀ (d k fu : Nat) (g : Mem), d = len - k → k ≤ len → d < fu → LIs g q len c → LIs g a k c → ∃ g', f_X3_copy_l6 n Z a fu q (nI k) g = some ((), g') ∧ LIs g' a len c ∧ Fr a (a + 2) g g' := by
  intro d
  induction d with
  | zero =>
    intro k fu g h1 h2 h3 h4 h5
    obtain ⟨fu, rfl⟩ : ∃ q, fu = q + 1 := ⟨fu - 1, by omega⟩
    have hk : k = len := by omega
    subst hk
    unfold f_X3_copy_l6
    rw [l_len hZq, bnd_s, h4.1, if_pos ((nle (by omega) (by omega)).mpr (Nat.le_refl _))]
    exact ⟨g, rfl, h5, Fr.rfl⟩
  | succ d ih =>
    intro k fu g h1 h2 h3 h4 h5
    obtain ⟨fu, rfl⟩ : ∃ q, fu = q + 1 := ⟨fu - 1, by omega⟩
    obtain ⟨g1, a1, a2, a3⟩ := l_add (n := n) (x := c k) hZ hr h5 (by omega) (hc k (by omega))
    unfold f_X3_copy_l6
    rw [l_len hZq, bnd_s, h4.1, if_neg (fun z => by have := (nle (by omega) (by omega)).mp z; omega), l_code hZq hr2 hl2 h4 (by omega), bnd_s, ch16 (hc k (by omega)), a1, bnd_s, nI_1]
    obtain ⟨g2, b1, b2, b3⟩ := ih (k + 1) fu g1 (by omega) (by omega) (by omega) (h4.fr a3 (by omega)) (a2.cong fun j hj => by
      by_cases z : j = k
      · rw [if_pos z, z]
      · rw [if_neg z])
    exact ⟨g2, b1, b2, a3.trans b3⟩
theorem l_copy {n : Nat} {Z : Zt} {a q r r2 len : Nat} {c : Nat → Nat} {g : Mem} (hn : len < n) (hZ : LZ Z a r) (hZq : LZ Z q r2) (hr : r < 2147483648) (hr2 : r2 < 2147483648) (hl : len ≤ r) (hl2 : len ≤ r2) (hd : q + 2 ≤ a ∨ a + 2 ≤ q) (hc : ∀ k, k < len → c k < 65536) (h : LIs g q len c) : ∃ g', f_X3_copy n Z a q g = some ((), g') ∧ LIs g' a len c ∧ Fr a (a + 2) g g' := by
  obtain ⟨k1, k2⟩ := l_clear_is (a := a) (g := g) (c := c)
  obtain ⟨g2, b1, b2, b3⟩ := l_copy6 (n := n) hZ hZq hr hr2 hl hl2 hd hc len 0 n _ (by omega) (by omega) (by omega) (h.fr k2 (by omega)) k1
  refine ⟨g2, ?_, b2, k2.trans b3⟩
  unfold f_X3_copy
  rw [grd_t hZ.1, l_clear hZ, bnd_s]; exact b1
/-- whether a sign is among some -/
def hasC (c : Nat → Nat) (len x : Nat) : Bool := (List.range len).any fun k => c k == x
theorem hasC_iff {c : Nat → Nat} {len x : Nat} : hasC c len x = true ↔ ∃ k, k < len ∧ c k = x := by
  unfold hasC
  simp [List.any_eq_true]
theorem l_contains2 {n : Nat} {Z : Zt} {a r len x : Nat} {c : Nat → Nat} {g : Mem} (hZ : LZ Z a r) (hr : r < 2147483648) (hl : len ≤ r) (h : LIs g a len c) (hc : ∀ k, k < len → c k < 65536) (hx : x < 65536) : ∀ (d k fu : Nat), d = len - k → k ≤ len → d < fu → (∀ j, j < k → c j ≠ x) → f_X3_contains_l2 n Z a fu (nI x) (nI k) g = some (if hasC c len x then 1 else 0, g) := by
  intro d
  induction d with
  | zero =>
    intro k fu h1 h2 h3 h4
    obtain ⟨fu, rfl⟩ : ∃ q, fu = q + 1 := ⟨fu - 1, by omega⟩
    have hk : k = len := by omega
    subst hk
    unfold f_X3_contains_l2
    rw [h.1, if_pos ((nle (by omega) (by omega)).mpr (Nat.le_refl _)), if_neg (fun z => by obtain ⟨j, j1, j2⟩ := hasC_iff.mp z; exact h4 j j1 j2)]
  | succ d ih =>
    intro k fu h1 h2 h3 h4
    obtain ⟨fu, rfl⟩ : ∃ q, fu = q + 1 := ⟨fu - 1, by omega⟩
    unfold f_X3_contains_l2
    have := hc k (by omega)
    rw [h.1, if_neg (fun z => by have := (nle (by omega) (by omega)).mp z; omega), l_code hZ hr hl h (by omega), bnd_s]
    by_cases z : c k = x
    · rw [if_pos ((neq (by omega) (by omega)).mpr z), if_pos (hasC_iff.mpr ⟨k, by omega, z⟩)]
    · rw [if_neg (fun w => z ((neq (by omega) (by omega)).mp w)), nI_1]
      exact ih (k + 1) fu (by omega) (by omega) (by omega) fun j hj => by
        by_cases w : j = k
        · subst w; exact z
        · exact h4 j (by omega)
theorem l_contains {n : Nat} {Z : Zt} {a r len x : Nat} {c : Nat → Nat} {g : Mem} (hn : len < n) (hZ : LZ Z a r) (hr : r < 2147483648) (hl : len ≤ r) (h : LIs g a len c) (hc : ∀ k, k < len → c k < 65536) (hx : x < 65536) : f_X3_contains n Z a (nI x) g = some (if hasC c len x then 1 else 0, g) := by
  unfold f_X3_contains
  rw [grd_t hZ.1]
  exact l_contains2 hZ hr hl h hc hx len 0 n (by omega) (by omega) (by omega) (fun j hj => absurd hj (Nat.not_lt_zero _))
/-! STATES (the class) -/
theorem cn_l2 {n : Nat} {Z : Zt} {x y N : Nat} {g0 : Mem} (hx : zk Z x = 12) (hy : zk Z y = 12) (hlx : zl Z x = N) (hly : zl Z y = N) (hN : N < 2147483648) (hne : x ≠ y) : ∀ (d k fu : Nat) (g : Mem), d = N - k → k ≤ N → d < fu → Ch (fun b _ => b = y) g0 g → (∀ j, j < k → gI g y j = gI g0 x j) → ∃ g', f_X8_copyNumbers_l2 n Z fu x y (nI k) g = some ((), g') ∧ (∀ j, j < N → gI g' y j = gI g0 x j) ∧ Ch (fun b _ => b = y) g0 g' := by
  intro d
  induction d with
  | zero =>
    intro k fu g h1 h2 h3 h4 h5
    obtain ⟨fu, rfl⟩ : ∃ q, fu = q + 1 := ⟨fu - 1, by omega⟩
    have hk : k = N := by omega
    subst hk
    unfold f_X8_copyNumbers_l2
    rw [grd_t hx, hlx, if_pos (show Int32.ofNat k ≤ nI k from (nle (by omega) (by omega)).mpr (Nat.le_refl _))]
    exact ⟨g, rfl, h5, h4⟩
  | succ d ih =>
    intro k fu g h1 h2 h3 h4 h5
    obtain ⟨fu, rfl⟩ : ∃ q, fu = q + 1 := ⟨fu - 1, by omega⟩
    unfold f_X8_copyNumbers_l2
    have e1 : ¬ (Int32.ofNat N ≤ nI k) := fun z => by have := (nle (by omega) (by omega)).mp z; omega
    simp (disch := omega) only [hx, hy, hlx, hly, grd_t, grd_true, inr_eq, clamp, if_neg e1, nI_1]
    exact ih (k + 1) fu _ (by omega) (by omega) (by omega) (h4.sI rfl) fun j hj => by
      by_cases z : j = k
      · rw [gI_sI, if_pos ⟨rfl, z⟩, h4.i (show ¬ x = y from hne), z]
      · rw [gI_sI, if_neg (fun w => z w.2)]; exact h5 j (by omega)
theorem cn_ {n : Nat} {Z : Zt} {x y N : Nat} {g : Mem} (hn : N < n) (hx : zk Z x = 12) (hy : zk Z y = 12) (hlx : zl Z x = N) (hly : zl Z y = N) (hN : N < 2147483648) (hne : x ≠ y) : ∃ g', f_X8_copyNumbers n Z x y g = some ((), g') ∧ (∀ j, j < N → gI g' y j = gI g x j) ∧ Ch (fun b _ => b = y) g g' :=
  cn_l2 (n := n) hx hy hlx hly hN hne N 0 n g (by omega) (by omega) (by omega) Ch.rfl (fun j hj => absurd hj (Nat.not_lt_zero _))
theorem Ch.fr {P : Nat → Nat → Prop} {lo hi : Nat} {g g' : Mem} (h : Ch P g g') (hP : ∀ b j, P b j → lo ≤ b ∧ b < hi) : Fr lo hi g g' := fun b hb j => h b j fun q => by have := hP b j q; omega
theorem Fr.ch {lo hi : Nat} {g g' : Mem} (h : Fr lo hi g g') : Ch (fun b _ => lo ≤ b ∧ b < hi) g g' := fun b j hb => h b (by omega) j
theorem BOk.chr {b : Nat → Nat} (hb : BOk b) {k : Nat} (hk : k < b 84) : b (85 + k) < 65536 := by have := hb.2.2.2 k hk; omega
/-- State.copy -/
theorem s_copy {n : Nat} {Z : Zt} {a x : Nat} {g : Mem} {b : Nat → Nat} (hn : 100 ≤ n) (hZ : SZ Z a) (hZx : SZ Z x) (hb : BOk b) (hd : x + 8 ≤ a ∨ a + 8 ≤ x) (h : StIs g x b) : ∃ g', f_X8_copy n Z a x g = some ((), g') ∧ StIs g' a b ∧ Fr a (a + 8) g g' := by
  obtain ⟨z, zL⟩ := hZ
  obtain ⟨w, wL⟩ := hZx
  obtain ⟨g1, a1, a2, a3⟩ := cn_ (n := n) (g := g) (N := 4) (by omega) w.k0 z.k0 w.l0 z.l0 (by omega) (by omega)
  obtain ⟨g2, b1, b2, b3⟩ := cn_ (n := n) (g := g1) (N := 16) (by omega) w.k1 z.k1 w.l1 z.l1 (by omega) (by omega)
  obtain ⟨g3, c1, c2, c3⟩ := cn_ (n := n) (g := g2) (N := 16) (by omega) w.k2 z.k2 w.l2 z.l2 (by omega) (by omega)
  obtain ⟨g4, d1, d2, d3⟩ := cn_ (n := n) (g := g3) (N := 16) (by omega) w.k3 z.k3 w.l3 z.l3 (by omega) (by omega)
  obtain ⟨g5, e1, e2, e3⟩ := cn_ (n := n) (g := g4) (N := 16) (by omega) w.k4 z.k4 w.l4 z.l4 (by omega) (by omega)
  have A3 : Fr a (a + 8) g g1 := a3.fr fun b j q => by omega
  have B3 : Fr a (a + 8) g1 g2 := b3.fr fun b j q => by omega
  have C3 : Fr a (a + 8) g2 g3 := c3.fr fun b j q => by omega
  have D3 : Fr a (a + 8) g3 g4 := d3.fr fun b j q => by omega
  have E3 : Fr a (a + 8) g4 g5 := e3.fr fun b j q => by omega
  have F5 := A3.trans (B3.trans (C3.trans (D3.trans E3)))
  have h5 := h.fr F5 (by omega)
  have := hb.2.2.1
  obtain ⟨g6, f1, f2, f3⟩ := l_copy (n := n) (g := g5) (len := b 84) (c := fun k => b (85 + k)) (by omega) zL wL (by omega) (by omega) (by omega) (by omega) (by omega) (fun k hk => hb.chr hk) h5.2.2.2.2
  have F6 : Fr a (a + 8) g g6 := F5.trans (f3.mono (by omega) (by omega))
  obtain ⟨h1, h2, ⟨M, h3, h3'⟩, ⟨W, h4, h4'⟩, h6⟩ := h
  have ne : ∀ {q : Nat}, (q = x ∨ q = x + 1 ∨ q = x + 2 ∨ q = x + 3 ∨ q = x + 4 ∨ q = x + 5) → q < a ∨ a + 8 ≤ q := fun q => by omega
  refine ⟨sI (sI g6 a 6 (gI g6 x 6)) a 7 (gI (sI g6 a 6 (gI g6 x 6)) x 7), ?_, ⟨fun t ht => ?_, fun t ht hbt => ⟨?_, ?_, ?_, ?_⟩, ⟨M, ?_, h3'⟩, ⟨W, ?_, h4'⟩, ?_⟩, (F6.sI (by omega) (by omega)).sI (by omega) (by omega)⟩
  · unfold f_X8_copy
    simp only [grd_t z.k, grd_t w.k, z.f0, z.f1, z.f2, z.f3, z.f4, z.f5, w.f0, w.f1, w.f2, w.f3, w.f4, w.f5, drf_s, a1, b1, c1, d1, e1, f1, bnd_s]
  · rw [gI_sI, if_neg (by omega), gI_sI, if_neg (by omega), f3.i (by omega), e3.i (by omega), d3.i (by omega), c3.i (by omega), b3.i (by omega), a2 t ht, h1 t ht]
  · rw [gI_sI, if_neg (by omega), gI_sI, if_neg (by omega), f3.i (by omega), e3.i (by omega), d3.i (by omega), c3.i (by omega), b2 t ht, A3.i (by omega), (h2 t ht hbt).1]
  · rw [gI_sI, if_neg (by omega), gI_sI, if_neg (by omega), f3.i (by omega), e3.i (by omega), d3.i (by omega), c2 t ht, B3.i (by omega), A3.i (by omega), (h2 t ht hbt).2.1]
  · rw [gI_sI, if_neg (by omega), gI_sI, if_neg (by omega), f3.i (by omega), e3.i (by omega), d2 t ht, C3.i (by omega), B3.i (by omega), A3.i (by omega), (h2 t ht hbt).2.2.1]
  · rw [gI_sI, if_neg (by omega), gI_sI, if_neg (by omega), f3.i (by omega), e2 t ht, D3.i (by omega), C3.i (by omega), B3.i (by omega), A3.i (by omega), (h2 t ht hbt).2.2.2]
  · rw [gI_sI, if_neg (by omega), gI_sI, if_pos ⟨rfl, rfl⟩, F6.i (by omega), h3]
  · rw [gI_sI, if_pos ⟨rfl, rfl⟩, gI_sI, if_neg (by omega), F6.i (by omega), h4]
  · exact f2.fr (lo := a) (hi := a + 1) ((Fr.rfl.sI (by omega) (by omega)).sI (by omega) (by omega)) (by omega)

/-! THE REFERENCE's STATE -/
theorem ff : ¬ (false = true) := Bool.false_ne_true
theorem m_in {n : Nat} {Z : Zt} {g : Mem} {x lo hi : Int32} : f_X11_in n Z x lo hi g = some (if x < lo ∨ hi < x then 0 else 1, g) := by
  unfold f_X11_in
  by_cases h1 : x < lo
  · rw [if_pos h1, if_pos (Or.inl h1)]
  · rw [if_neg h1]
    by_cases h2 : hi < x
    · rw [if_pos h2, if_pos (Or.inr h2)]
    · rw [if_neg h2, if_neg (fun q => q.elim h1 h2)]
theorem m_inN {n : Nat} {Z : Zt} {g : Mem} {x lo hi : Nat} (hx : x < 2147483648) (h1 : lo < 2147483648) (h2 : hi < 2147483648) : f_X11_in n Z (nI x) (nI lo) (nI hi) g = some (if lo ≤ x ∧ x ≤ hi then 1 else 0, g) := by
  rw [m_in]
  by_cases q : lo ≤ x ∧ x ≤ hi
  · rw [if_pos q, if_neg (fun z => by
      rcases z with z | z
      · have := (nlt (by omega) (by omega)).mp z; omega
      · have := (nlt (by omega) (by omega)).mp z; omega)]
  · rw [if_neg q, if_pos (by
      by_cases w : x < lo
      · exact Or.inl ((nlt (by omega) (by omega)).mpr w)
      · exact Or.inr ((nlt (by omega) (by omega)).mpr (by omega)))]
theorem m_inO {n : Nat} {Z : Zt} {g : Mem} {x : Int32} {hi : Nat} (h2 : hi < 2147483647) (hx : x < 0 ∨ nI (hi + 1) ≤ x) : f_X11_in n Z x 0 (nI hi) g = some (0, g) := by
  rw [m_in]
  by_cases q : x < 0
  · rw [if_pos (Or.inl q)]
  · obtain ⟨j, j1, rfl⟩ := nI_of q
    have := (nle (by omega) (by omega)).mp (hx.resolve_left q)
    rw [if_pos (Or.inr ((nlt (by omega) (by omega)).mpr (by omega)))]
theorem of_0 {n : Nat} {Z : Zt} {m k : Nat} {b : Nat → Nat} {g : Mem} (hZ : MZ Z m) (hB : BIs g m b) (hk : k < 16) : f_X11_of n Z m (nI k) 0 g = some (nI (b (4 + 5 * k)), g) := m_of0 (c := 0) hZ hB hk (by omega)
theorem of_1 {n : Nat} {Z : Zt} {m k : Nat} {b : Nat → Nat} {g : Mem} (hZ : MZ Z m) (hB : BIs g m b) (hk : k < 16) : f_X11_of n Z m (nI k) 1 g = some (nI (b (5 + 5 * k)), g) := by
  rw [show 5 + 5 * k = 4 + 5 * k + 1 by omega]; exact m_of0 (c := 1) hZ hB hk (by omega)
theorem of_2 {n : Nat} {Z : Zt} {m k : Nat} {b : Nat → Nat} {g : Mem} (hZ : MZ Z m) (hB : BIs g m b) (hk : k < 16) : f_X11_of n Z m (nI k) 2 g = some (nI (b (6 + 5 * k)), g) := by
  rw [show 6 + 5 * k = 4 + 5 * k + 2 by omega]; exact m_of0 (c := 2) hZ hB hk (by omega)
theorem of_3 {n : Nat} {Z : Zt} {m k : Nat} {b : Nat → Nat} {g : Mem} (hZ : MZ Z m) (hB : BIs g m b) (hk : k < 16) : f_X11_of n Z m (nI k) 3 g = some (nI (b (7 + 5 * k)), g) := by
  rw [show 7 + 5 * k = 4 + 5 * k + 3 by omega]; exact m_of0 (c := 3) hZ hB hk (by omega)
theorem of_4 {n : Nat} {Z : Zt} {m k : Nat} {b : Nat → Nat} {g : Mem} (hZ : MZ Z m) (hB : BIs g m b) (hk : k < 16) : f_X11_of n Z m (nI k) 4 g = some (nI (b (8 + 5 * k)), g) := by
  rw [show 8 + 5 * k = 4 + 5 * k + 4 by omega]; exact m_of0 (c := 4) hZ hB hk (by omega)
theorem in_0 {n : Nat} {Z : Zt} {g : Mem} {x hi : Nat} (hx : x < 2147483648) (h2 : hi < 2147483648) : f_X11_in n Z (nI x) 0 (nI hi) g = some (if x ≤ hi then 1 else 0, g) := by
  have := m_inN (n := n) (Z := Z) (g := g) (lo := 0) hx (by omega) h2
  simp only [Nat.zero_le, true_and] at this
  exact this
theorem in_15 {n : Nat} {Z : Zt} {g : Mem} {x : Nat} (hx : x < 16) : f_X11_in n Z (nI x) 0 15 g = some (1, g) := by
  have := in_0 (n := n) (Z := Z) (g := g) (x := x) (hi := 15) (by omega) (by omega)
  rw [if_pos (by omega)] at this
  exact this
theorem in_3 {n : Nat} {Z : Zt} {g : Mem} {x : Nat} (hx : x < 4) : f_X11_in n Z (nI x) 0 3 g = some (1, g) := by
  have := in_0 (n := n) (Z := Z) (g := g) (x := x) (hi := 3) (by omega) (by omega)
  rw [if_pos (by omega)] at this
  exact this
theorem neI {a b : Nat} (ha : a < 2147483648) (hb : b < 2147483648) (h : a ≠ b) : ¬ nI a = nI b := fun q => h ((neq ha hb).mp q)
theorem ge_n {N k : Nat} (hN : N < 2147483648) (hk : k < N) : ¬ nI N ≤ nI k := fun q => by have := (nle (by omega) (by omega)).mp q; omega
theorem m_isTag {n : Nat} {Z : Zt} {m t : Nat} {b : Nat → Nat} {g : Mem} (hb : BOk b) (hZ : MZ Z m) (hB : BIs g m b) (ht : t < 16) : f_X11_isTag n Z m (nI t) g = some (if b (4 + 5 * t) = 0 then 0 else 1, g) := by
  have hb4 := (hb.2.1 t ht).1
  unfold f_X11_isTag
  rw [grd_t hZ.k, in_15 ht, bnd_s, if_neg i10, of_0 hZ hB ht, bnd_s]
  by_cases q : b (4 + 5 * t) = 0
  · rw [q, if_pos rfl, if_pos (show nI 0 ≤ (0 : Int32) by decide)]
  · rw [if_neg q, if_neg (fun z => by have := (nle (b := 0) (by omega) (by omega)).mp z; omega)]
theorem m_isTagO {n : Nat} {Z : Zt} {m : Nat} {g : Mem} {x : Int32} (hZ : MZ Z m) (hx : x < 0 ∨ nI 16 ≤ x) : f_X11_isTag n Z m x g = some (0, g) := by
  unfold f_X11_isTag
  rw [grd_t hZ.k, show f_X11_in n Z x 0 15 g = some (0, g) from m_inO (hi := 15) (by omega) hx, bnd_s, if_pos rfl]
theorem m_isT {n : Nat} {Z : Zt} {t : Nat} {g : Mem} (ht : t < 4) : f_X11_isTable n Z (nI t) g = some (1, g) := by
  unfold f_X11_isTable
  rw [in_3 ht, bnd_s, grd_t (show isz (1 : Int32) by decide)]
theorem m_isTO {n : Nat} {Z : Zt} {g : Mem} {x : Int32} (hx : x < 0 ∨ nI 4 ≤ x) : f_X11_isTable n Z x g = some (0, g) := by
  unfold f_X11_isTable
  rw [show f_X11_in n Z x 0 3 g = some (0, g) from m_inO (hi := 3) (by omega) hx, bnd_s, grd_t (show isz (0 : Int32) by decide)]
theorem s_isTO {n : Nat} {Z : Zt} {g : Mem} {x : Int32} (hx : x < 0 ∨ nI 4 ≤ x) : f_X10_isTable n Z x g = some (0, g) := by
  unfold f_X10_isTable
  by_cases q : x < 0
  · rw [if_pos q]
  · rw [if_neg q]
    obtain ⟨j, j1, rfl⟩ := nI_of q
    have h4 : 4 ≤ j := (nle (by omega) (by omega)).mp (hx.resolve_left q)
    simp (disch := omega) only [Lnle, nltL, if_pos, if_neg]
theorem BIs.up {g : Mem} {m i v : Nat} {b : Nat → Nat} (h : BIs g m b) : BIs (sI g (m + 1) i (nI v)) m (up b i v) := fun j hj => by
  by_cases q : j = i
  · subst q; rw [gI_sI, if_pos ⟨rfl, rfl⟩, up_eq]
  · rw [gI_sI, if_neg (fun z => q z.2), up_ne q]; exact h j hj
theorem m_lays {n : Nat} {Z : Zt} {m k c : Nat} {v : Int32} {g : Mem} (hZ : MZ Z m) (hk : k < 16) (hc : c < 5) : f_X11_lays n Z m (nI k) (nI c) v g = some ((), sI g (m + 1) (4 + 5 * k + c) v) := by
  unfold f_X11_lays
  have e : ((4 : Int32) + ((5 : Int32) * nI k)) + nI c = nI (4 + 5 * k + c) := by
    rw [show (4 : Int32) = nI 4 from rfl, show (5 : Int32) = nI 5 from rfl, mIJ, nI_add, nI_add]
  rw [grd_t hZ.k, hZ.f0, drf_s, grd_t hZ.k0, e]
  simp (disch := omega) only [hZ.l0, grd_t, grd_true, inr_eq, clamp]
theorem up_up_comm : True := trivial
theorem m_laysRow {n : Nat} {Z : Zt} {m t tab v : Nat} {b : Nat → Nat} {g : Mem} (hZ : MZ Z m) (hB : BIs g m b) (ht : t < 16) (htab : tab < 100) : ∃ g', f_X11_laysRow n Z m (nI t) (nI tab) (nI v) g = some ((), g') ∧ BIs g' m (setRow b t tab v (if tab = 0 then 0 else 1) (if tab = 0 then 0 else 100) 0) ∧ Ch (fun b _ => b = m + 1) g g' := by
  have e0 : ∀ x : Int32, f_X11_lays n Z m (nI t) 0 x = fun g => some ((), sI g (m + 1) (4 + 5 * t) x) := fun x => funext fun g => by
    exact m_lays (c := 0) hZ ht (by omega)
  have e1 : ∀ x : Int32, f_X11_lays n Z m (nI t) 1 x = fun g => some ((), sI g (m + 1) (5 + 5 * t) x) := fun x => funext fun g => by
    rw [show 5 + 5 * t = 4 + 5 * t + 1 by omega]; exact m_lays (c := 1) hZ ht (by omega)
  have e2 : ∀ x : Int32, f_X11_lays n Z m (nI t) 2 x = fun g => some ((), sI g (m + 1) (6 + 5 * t) x) := fun x => funext fun g => by
    rw [show 6 + 5 * t = 4 + 5 * t + 2 by omega]; exact m_lays (c := 2) hZ ht (by omega)
  have e3 : ∀ x : Int32, f_X11_lays n Z m (nI t) 3 x = fun g => some ((), sI g (m + 1) (7 + 5 * t) x) := fun x => funext fun g => by
    rw [show 7 + 5 * t = 4 + 5 * t + 3 by omega]; exact m_lays (c := 3) hZ ht (by omega)
  have e4 : ∀ x : Int32, f_X11_lays n Z m (nI t) 4 x = fun g => some ((), sI g (m + 1) (8 + 5 * t) x) := fun x => funext fun g => by
    rw [show 8 + 5 * t = 4 + 5 * t + 4 by omega]; exact m_lays (c := 4) hZ ht (by omega)
  refine ⟨sI (sI (sI (sI (sI g (m + 1) (4 + 5 * t) (nI tab)) (m + 1) (5 + 5 * t) (nI v)) (m + 1) (6 + 5 * t) (nI (if tab = 0 then 0 else 1))) (m + 1) (7 + 5 * t) (nI (if tab = 0 then 0 else 100))) (m + 1) (8 + 5 * t) (nI 0), ?_, ?_, ?_⟩
  · unfold f_X11_laysRow f_X11_laysRow_l26 f_X11_laysRow_l42
    rw [grd_t hZ.k]
    simp only [e0, e1, e2, e3, e4, bnd_s]
    by_cases q : tab = 0
    · subst q; rfl
    · have h0 : ¬ nI tab = 0 := fun z => q ((neq (b := 0) (by omega) (by omega)).mp z)
      rw [if_neg h0, if_neg h0, if_neg q, if_neg q]; rfl
  · exact hB.up.up.up.up.up
  · have P : ∀ (q : Mem) (j : Nat) (v : Int32), Ch (fun b _ => b = m + 1) g q → Ch (fun b _ => b = m + 1) g (sI q (m + 1) j v) := fun q j v hq => hq.sI rfl
    exact P _ _ _ (P _ _ _ (P _ _ _ (P _ _ _ (P _ _ _ Ch.rfl))))
theorem or_mk {p : Nat → Bool} {k : Nat} (hk : k < 16) : nI (mk p k) ||| (if p k then (1 : Int32) <<< (nI k &&& 31) else 0) = nI (mk p (k + 1)) := by
  have h1 := mk_lt p k
  have h2 : 2 ^ k < 65536 := p2_lt hk
  show _ = nI (mk p k ||| if p k then 2 ^ k else 0)
  by_cases q : p k = true
  · rw [if_pos q, if_pos q, one_shl hk, or_n (by omega) (by omega)]
  · rw [if_neg q, if_neg q, show (0 : Int32) = nI 0 from rfl, or_n (by omega) (by omega)]
def maskB (b : Nat → Nat) (w : Nat) : Nat → Bool := fun t => decide (b (4 + 5 * t) ≠ 0) && (decide (w = 0) || decide (b (8 + 5 * t) = 1))
theorem mask_l4 {n : Nat} {Z : Zt} {m w : Nat} {b : Nat → Nat} {g : Mem} (hb : BOk b) (hZ : MZ Z m) (hB : BIs g m b) (hw : w ≤ 1) : ∀ (d k fu : Nat), d = 16 - k → k ≤ 16 → d < fu → f_X11_mask_l4 n Z m fu (nI w) (nI (mk (maskB b w) k)) (nI k) g = some (nI (mk (maskB b w) 16), g) := by
  intro d
  induction d with
  | zero =>
    intro k fu h1 h2 h3
    obtain ⟨fu, rfl⟩ : ∃ q, fu = q + 1 := ⟨fu - 1, by omega⟩
    have hk : k = 16 := by omega
    subst hk
    unfold f_X11_mask_l4
    rw [if_pos (show (16 : Int32) ≤ nI 16 by decide)]
  | succ d ih =>
    intro k fu h1 h2 h3
    obtain ⟨fu, rfl⟩ : ∃ q, fu = q + 1 := ⟨fu - 1, by omega⟩
    have hk : k < 16 := by omega
    have IH := ih (k + 1) fu (by omega) (by omega) (by omega)
    have hb4 := (hb.2.1 k hk).1
    have hb8 := (hb.2.1 k hk).2.1
    unfold f_X11_mask_l4
    rw [if_neg (show ¬ (16 : Int32) ≤ nI k from ge_n (N := 16) (by omega) hk), of_0 hZ hB hk, bnd_s]
    have OR := or_mk (p := maskB b w) hk
    by_cases q : b (4 + 5 * k) = 0
    · rw [q, if_pos (show nI 0 ≤ (0 : Int32) by decide)]
      unfold f_X11_mask_l40
      have hf : maskB b w k = false := by simp [maskB, q]
      rw [hf] at OR
      simp only [Bool.false_eq_true, if_false] at OR
      rw [OR, nI_1]; exact IH
    · rw [if_neg (fun z => by have := (nle (b := 0) (by omega) (by omega)).mp z; omega)]
      by_cases hw0 : w = 0
      · subst hw0
        have hf : maskB b 0 k = true := by simp [maskB, q]
        rw [hf, if_pos rfl] at OR
        rw [if_pos (show nI 0 = 0 from rfl), OR, nI_1]; exact IH
      · rw [if_neg (show ¬ nI w = (0 : Int32) from neI (b := 0) (by omega) (by omega) hw0), of_4 hZ hB hk, bnd_s]
        by_cases q8 : b (8 + 5 * k) = 1
        · have hf : maskB b w k = true := by simp [maskB, q, q8]
          rw [hf, if_pos rfl] at OR
          rw [q8, if_pos (show nI 1 = 1 from rfl), OR, nI_1]; exact IH
        · rw [if_neg (show ¬ nI (b (8 + 5 * k)) = (1 : Int32) from neI (b := 1) (by omega) (by omega) q8)]
          unfold f_X11_mask_l40
          have hf : maskB b w k = false := by simp [maskB, q8, hw0]
          rw [hf] at OR
          simp only [Bool.false_eq_true, if_false] at OR
          rw [OR, nI_1]; exact IH
theorem mk_cong {p q : Nat → Bool} : ∀ k, (∀ t, t < k → p t = q t) → mk p k = mk q k
  | 0, _ => rfl
  | k + 1, h => by unfold mk; rw [mk_cong k fun t ht => h t (by omega), h k (by omega)]
theorem m_mask0 {n : Nat} {Z : Zt} {m : Nat} {b : Nat → Nat} {g : Mem} (hn : 40 ≤ n) (hb : BOk b) (hZ : MZ Z m) (hB : BIs g m b) : f_X11_mask n Z m 0 g = some (nI (mk (tagB b) 16), g) := by
  unfold f_X11_mask
  rw [grd_t hZ.k]
  have := mask_l4 (n := n) (w := 0) hb hZ hB (by omega) 16 0 n (by omega) (by omega) (by omega)
  rw [mk_cong (p := tagB b) (q := maskB b 0) 16 fun t ht => by simp [tagB, maskB]]
  exact this
theorem m_mask1 {n : Nat} {Z : Zt} {m : Nat} {b : Nat → Nat} {g : Mem} (hn : 40 ≤ n) (hb : BOk b) (hZ : MZ Z m) (hB : BIs g m b) : f_X11_mask n Z m 1 g = some (nI (mk (goneB b) 16), g) := by
  unfold f_X11_mask
  rw [grd_t hZ.k]
  have := mask_l4 (n := n) (w := 1) hb hZ hB (by omega) 16 0 n (by omega) (by omega) (by omega)
  rw [mk_cong (p := goneB b) (q := maskB b 1) 16 fun t ht => by
    have := (hb.2.1 t ht).2.2.2.2.2
    by_cases q : b (4 + 5 * t) = 0
    · simp [goneB, maskB, q, (this q).2.2.2]
    · simp [goneB, maskB, q]]
  exact this
/-! history -/
def PaIs (g : Mem) (m : Nat) (hb : List (Nat → Nat)) : Prop := gI g m 2 = nI hb.length ∧ hb.length ≤ 4 ∧ ∀ i, i < hb.length → ∀ j, j < 145 → gI g (m + 2) (145 * i + j) = nI (hb.getD i b0 j)
theorem PaIs.ch {P : Nat → Nat → Prop} {g g' : Mem} {m : Nat} {hb : List (Nat → Nat)} (h : PaIs g m hb) (hF : Ch P g g') (hP : ¬ P m 2 ∧ ∀ j, ¬ P (m + 2) j) : PaIs g' m hb := ⟨(hF.i hP.1).trans h.1, h.2.1, fun i hi j hj => (hF.i (hP.2 _)).trans (h.2.2 i hi j hj)⟩
theorem rec_l51 {n : Nat} {Z : Zt} {m L : Nat} {b : Nat → Nat} {g0 : Mem} (hZ : MZ Z m) (hL : L < 4) (hB : BIs g0 m b) (h2 : gI g0 m 2 = nI L) : ∀ (d k fu : Nat) (g : Mem), d = 145 - k → k ≤ 145 → d < fu → Ch (fun b j => b = m + 2 ∧ 145 * L ≤ j) g0 g → (∀ j, j < k → gI g (m + 2) (145 * L + j) = nI (b j)) → ∃ g', f_X11_records_l51 n Z m fu (nI k) g = some ((), g') ∧ gI g' m 2 = nI (L + 1) ∧ gI g' m 26 = 0 ∧ (∀ j, j < 145 → gI g' (m + 2) (145 * L + j) = nI (b j)) ∧ Ch (fun b j => (b = m ∧ (j = 2 ∨ j = 26)) ∨ (b = m + 2 ∧ 145 * L ≤ j)) g0 g' := by
  intro d
  induction d with
  | zero =>
    intro k fu g h1 h3 h4 h5 h6
    obtain ⟨fu, rfl⟩ : ∃ q, fu = q + 1 := ⟨fu - 1, by omega⟩
    have hk : k = 145 := by omega
    subst hk
    refine ⟨sI (sI g m 2 (gI g m 2 + 1)) m 26 0, ?_, ?_, ?_, fun j hj => ?_, ((h5.mono fun b j q => Or.inr q).sI (Or.inl ⟨rfl, Or.inl rfl⟩)).sI (Or.inl ⟨rfl, Or.inr rfl⟩)⟩
    · unfold f_X11_records_l51; rw [if_pos (show (145 : Int32) ≤ nI 145 by decide)]
    · rw [gI_sI, if_neg (by omega), gI_sI, if_pos ⟨rfl, rfl⟩, h5.i (by omega), h2, nI_1]
    · rw [gI_sI, if_pos ⟨rfl, rfl⟩]
    · rw [gI_sI, if_neg (by omega), gI_sI, if_neg (by omega)]; exact h6 j hj
  | succ d ih =>
    intro k fu g h1 h3 h4 h5 h6
    obtain ⟨fu, rfl⟩ : ∃ q, fu = q + 1 := ⟨fu - 1, by omega⟩
    have e2 : gI g m 2 = nI L := (h5.i (by omega)).trans h2
    have e1 : ((145 : Int32) * nI L) + nI k = nI (145 * L + k) := by rw [show (145 : Int32) = nI 145 from rfl, mIJ, nI_add]
    unfold f_X11_records_l51
    rw [if_neg (show ¬ (145 : Int32) ≤ nI k from fun q => by have := (nle (a := 145) (by omega) (by omega)).mp q; omega), hZ.f1, drf_s, hZ.f0, drf_s, e2, e1]
    simp (disch := omega) only [hZ.k0, hZ.l0, hZ.k1, hZ.l1, grd_t, grd_true, inr_eq, clamp, nI_1]
    refine ih (k + 1) fu _ (by omega) (by omega) (by omega) (h5.sI ⟨rfl, by omega⟩) fun j hj => ?_
    rw [gI_sI]
    by_cases z : j = k
    · rw [if_pos ⟨rfl, by omega⟩, h5.i (by omega), hB k (by omega), z]
    · rw [if_neg (fun w => by omega)]; exact h6 j (by omega)
theorem rec_l10 {n : Nat} {Z : Zt} {m : Nat} {g0 : Mem} (hZ : MZ Z m) (h2 : gI g0 m 2 = nI 4) : ∀ (d k fu : Nat) (g : Mem), d = 435 - k → k ≤ 435 → d < fu → Ch (fun b j => b = m + 2) g0 g → (∀ j, j < 580 → gI g (m + 2) j = if j < k then gI g0 (m + 2) (j + 145) else gI g0 (m + 2) j) → ∃ g1, f_X11_records_l10 n Z m fu (nI k) g = f_X11_records_l51 n Z m n 0 g1 ∧ gI g1 m 2 = nI 3 ∧ (∀ j, j < 435 → gI g1 (m + 2) j = gI g0 (m + 2) (j + 145)) ∧ Ch (fun b j => (b = m ∧ j = 2) ∨ b = m + 2) g0 g1 := by
  intro d
  induction d with
  | zero =>
    intro k fu g h1 h3 h4 h5 h6
    obtain ⟨fu, rfl⟩ : ∃ q, fu = q + 1 := ⟨fu - 1, by omega⟩
    have hk : k = 435 := by omega
    subst hk
    refine ⟨sI g m 2 (gI g m 2 - 1), ?_, ?_, fun j hj => ?_, (h5.mono fun b j q => Or.inr q).sI (Or.inl ⟨rfl, rfl⟩)⟩
    · rw [f_X11_records_l10, if_pos (show (435 : Int32) ≤ nI 435 by decide)]
    · rw [gI_sI, if_pos ⟨rfl, rfl⟩, h5.i (by omega), h2]; decide
    · rw [gI_sI, if_neg (by omega), h6 j (by omega), if_pos hj]
  | succ d ih =>
    intro k fu g h1 h3 h4 h5 h6
    obtain ⟨fu, rfl⟩ : ∃ q, fu = q + 1 := ⟨fu - 1, by omega⟩
    have e1 : nI k + (145 : Int32) = nI (k + 145) := by rw [show (145 : Int32) = nI 145 from rfl, nI_add]
    rw [f_X11_records_l10, if_neg (show ¬ (435 : Int32) ≤ nI k from fun q => by have := (nle (a := 435) (by omega) (by omega)).mp q; omega), hZ.f1, drf_s, drf_s, e1]
    simp (disch := omega) only [hZ.k1, hZ.l1, grd_t, grd_true, inr_eq, clamp, nI_1]
    refine ih (k + 1) fu _ (by omega) (by omega) (by omega) (h5.sI rfl) fun j hj => ?_
    rw [gI_sI]
    by_cases z : j = k
    · rw [if_pos ⟨rfl, z⟩, h6 (k + 145) (by omega), if_neg (by omega), if_pos (by omega), z]
    · rw [if_neg (fun w => z w.2), h6 j hj]
      by_cases w : j < k
      · rw [if_pos w, if_pos (by omega)]
      · rw [if_neg w, if_neg (by omega)]
def pRc (m b j : Nat) : Prop := (b = m ∧ (j = 2 ∨ j = 26)) ∨ b = m + 2
theorem m_records {n : Nat} {Z : Zt} {m : Nat} {hb : List (Nat → Nat)} {b : Nat → Nat} {g : Mem} (hn : 500 ≤ n) (hZ : MZ Z m) (hB : BIs g m b) (hP : PaIs g m hb) : ∃ g', f_X11_records n Z m g = some ((), g') ∧ PaIs g' m (rec4 hb b) ∧ gI g' m 26 = 0 ∧ Ch (pRc m) g g' := by
  obtain ⟨h1, h2, h3⟩ := id hP
  by_cases hl : hb.length = 4
  · obtain ⟨g1, a1, a2, a3, a4⟩ := rec_l10 (n := n) (g0 := g) hZ (by rw [h1, hl]) 435 0 n g (by omega) (by omega) (by omega) Ch.rfl (fun j hj => by rw [if_neg (by omega)])
    have hB1 : BIs g1 m b := hB.ch a4 fun j => by omega
    obtain ⟨g2, c1, c2, c3, c4, c5⟩ := rec_l51 (n := n) (g0 := g1) hZ (by omega) hB1 a2 145 0 n g1 (by omega) (by omega) (by omega) Ch.rfl (fun j hj => absurd hj (Nat.not_lt_zero _))
    refine ⟨g2, ?_, ?_, c3, (a4.mono fun b j q => by unfold pRc; omega).trans (c5.mono fun b j q => by unfold pRc; omega)⟩
    · unfold f_X11_records
      rw [grd_t hZ.k, h1, hl, if_pos (show nI 4 = (4 : Int32) from rfl)]
      exact a1.trans c1
    · unfold rec4
      rw [if_pos hl]
      have hdl : (hb.drop 1).length = 3 := by rw [List.length_drop]; omega
      have hlen : (hb.drop 1 ++ [b]).length = 4 := by rw [List.length_append, hdl]; rfl
      refine ⟨by rw [hlen]; exact c2, by omega, fun i hi j hj => ?_⟩
      rw [hlen] at hi
      by_cases z : i = 3
      · subst z
        have e : (hb.drop 1 ++ [b]).getD 3 b0 = b := by rw [show 3 = (hb.drop 1).length from hdl.symm]; simp [List.getD]
        rw [e]; exact c4 j hj
      · rw [getD_app_l (by omega), drop_get, c5.i (by omega), a3 _ (by omega), show 145 * i + j + 145 = 145 * (1 + i) + j by omega]
        exact h3 (1 + i) (by omega) j hj
  · obtain ⟨g2, c1, c2, c3, c4, c5⟩ := rec_l51 (n := n) (g0 := g) hZ (L := hb.length) (by omega) hB h1 145 0 n g (by omega) (by omega) (by omega) Ch.rfl (fun j hj => absurd hj (Nat.not_lt_zero _))
    refine ⟨g2, ?_, ?_, c3, c5.mono fun b j q => by unfold pRc; omega⟩
    · unfold f_X11_records
      rw [grd_t hZ.k, h1, if_neg (show ¬ nI hb.length = (4 : Int32) from neI (b := 4) (by omega) (by omega) hl)]; exact c1
    · unfold rec4
      rw [if_neg hl]
      have hlen : (hb ++ [b]).length = hb.length + 1 := by rw [List.length_append]; rfl
      refine ⟨by rw [hlen]; exact c2, by omega, fun i hi j hj => ?_⟩
      rw [hlen] at hi
      by_cases z : i = hb.length
      · subst z
        have e : (hb ++ [b]).getD hb.length b0 = b := by simp [List.getD]
        rw [e]; exact c4 j hj
      · rw [getD_app_l (by omega), c5.i (by omega)]
        exact h3 i (by omega) j hj
theorem und_l22 {n : Nat} {Z : Zt} {m L : Nat} {c : Nat → Nat} {g0 : Mem} (hZ : MZ Z m) (hL : L < 4) (hc : ∀ j, j < 145 → gI g0 (m + 2) (145 * L + j) = nI (c j)) (h2 : gI g0 m 2 = nI L) : ∀ (d k fu : Nat) (g : Mem), d = 145 - k → k ≤ 145 → d < fu → Ch (fun b j => b = m + 1) g0 g → (∀ j, j < k → gI g (m + 1) j = nI (c j)) → ∃ g', f_X11_undo_l22 n Z m fu (nI k) g = some (nI L, g') ∧ BIs g' m c ∧ gI g' m 26 = 0 ∧ Ch (fun b j => (b = m ∧ j = 26) ∨ b = m + 1) g0 g' := by
  intro d
  induction d with
  | zero =>
    intro k fu g h1 h3 h4 h5 h6
    obtain ⟨fu, rfl⟩ : ∃ q, fu = q + 1 := ⟨fu - 1, by omega⟩
    have hk : k = 145 := by omega
    subst hk
    refine ⟨sI g m 26 0, ?_, fun j hj => ?_, ?_, (h5.mono fun b j q => Or.inr q).sI (Or.inl ⟨rfl, rfl⟩)⟩
    · unfold f_X11_undo_l22; rw [if_pos (show (145 : Int32) ≤ nI 145 by decide), gI_sI, if_neg (by omega), h5.i (by omega), h2]
    · rw [gI_sI, if_neg (by omega)]; exact h6 j hj
    · rw [gI_sI, if_pos ⟨rfl, rfl⟩]
  | succ d ih =>
    intro k fu g h1 h3 h4 h5 h6
    obtain ⟨fu, rfl⟩ : ∃ q, fu = q + 1 := ⟨fu - 1, by omega⟩
    have e2 : gI g m 2 = nI L := (h5.i (by omega)).trans h2
    have e1 : ((145 : Int32) * nI L) + nI k = nI (145 * L + k) := by rw [show (145 : Int32) = nI 145 from rfl, mIJ, nI_add]
    unfold f_X11_undo_l22
    rw [if_neg (show ¬ (145 : Int32) ≤ nI k from fun q => by have := (nle (a := 145) (by omega) (by omega)).mp q; omega), hZ.f1, hZ.f0, drf_s, drf_s, e2, e1]
    simp (disch := omega) only [hZ.k0, hZ.l0, hZ.k1, hZ.l1, grd_t, grd_true, inr_eq, clamp, nI_1]
    refine ih (k + 1) fu _ (by omega) (by omega) (by omega) (h5.sI rfl) fun j hj => ?_
    rw [gI_sI]
    by_cases z : j = k
    · rw [if_pos ⟨rfl, z⟩, h5.i (by omega), hc k (by omega), z]
    · rw [if_neg (fun w => by omega)]; exact h6 j (by omega)
/-! rows, occurrences, the free tag -/
theorem m_hasR4 {n : Nat} {Z : Zt} {m tab : Nat} {b : Nat → Nat} {g : Mem} (hb : BOk b) (hZ : MZ Z m) (hB : BIs g m b) (htab : tab < 4) : ∀ (d k fu : Nat) (w : Bool), d = 16 - k → k ≤ 16 → d < fu → (w = true ↔ ∃ t, t < k ∧ b (4 + 5 * t) = tab + 1) → f_X11_hasRows_l4 n Z m fu (nI tab) (if w then 1 else 0) (nI k) g = some (if hasR b tab then 1 else 0, g) := by
  intro d
  induction d with
  | zero =>
    intro k fu w h1 h2 h3 h4
    obtain ⟨fu, rfl⟩ : ∃ q, fu = q + 1 := ⟨fu - 1, by omega⟩
    have hk : k = 16 := by omega
    subst hk
    have e : w = hasR b tab := Bool.eq_iff_iff.mpr (h4.trans hasR_iff.symm)
    unfold f_X11_hasRows_l4
    rw [if_pos (show (16 : Int32) ≤ nI 16 by decide), grd_t (isz_01 w), e]
  | succ d ih =>
    intro k fu w h1 h2 h3
    obtain ⟨fu, rfl⟩ : ∃ q, fu = q + 1 := ⟨fu - 1, by omega⟩
    have o1 : d = 16 - (k + 1) := by omega
    have o2 : k + 1 ≤ 16 := by omega
    have o3 : d < fu := by omega
    have o4 : k < k + 1 := by omega
    have hk : k < 16 := by omega
    have hb4 := (hb.2.1 k hk).1
    have n16 : ¬ (16 : Int32) ≤ nI k := ge_n (N := 16) (by omega) hk
    have nq : b (4 + 5 * k) ≠ tab + 1 → ¬ nI (b (4 + 5 * k)) = nI (tab + 1) := neI (by omega) (by omega)
    intro h4
    unfold f_X11_hasRows_l4
    rw [if_neg n16]
    cases w with
    | true =>
      obtain ⟨t, t1, t2⟩ := h4.mp rfl
      rw [if_pos rfl, if_neg i10, nI_1]
      have := ih (k + 1) fu true o1 o2 o3 ⟨fun _ => ⟨t, Nat.lt_trans t1 o4, t2⟩, fun _ => rfl⟩
      rw [if_pos rfl] at this
      exact this
    | false =>
      rw [if_neg ff, if_pos rfl, of_0 hZ hB hk, bnd_s, show nI tab + (1 : Int32) = nI (tab + 1) from nI_1 tab]
      by_cases q : b (4 + 5 * k) = tab + 1
      · rw [if_pos (by rw [q]), nI_1]
        have := ih (k + 1) fu true o1 o2 o3 ⟨fun _ => ⟨k, o4, q⟩, fun _ => rfl⟩
        rw [if_pos rfl] at this
        exact this
      · rw [if_neg (nq q), nI_1]
        have := ih (k + 1) fu false o1 o2 o3 ⟨fun z => absurd z ff, fun ⟨t, t1, t2⟩ => by
          by_cases z : t = k
          · subst z; exact absurd t2 q
          · exact h4.mpr ⟨t, Nat.lt_of_le_of_ne (Nat.le_of_lt_succ t1) z, t2⟩⟩
        rw [if_neg ff] at this
        exact this
theorem m_hasR {n : Nat} {Z : Zt} {m tab : Nat} {b : Nat → Nat} {g : Mem} (hn : 40 ≤ n) (hb : BOk b) (hZ : MZ Z m) (hB : BIs g m b) (htab : tab < 4) : f_X11_hasRows n Z m (nI tab) g = some (if hasR b tab then 1 else 0, g) := by
  unfold f_X11_hasRows
  rw [grd_t hZ.k]
  have := m_hasR4 (n := n) hb hZ hB htab 16 0 n false (by omega) (by omega) (by omega) ⟨fun z => absurd z ff, fun ⟨t, t1, _⟩ => absurd t1 (Nat.not_lt_zero _)⟩
  rw [if_neg ff] at this
  exact this
theorem m_occ4 {n : Nat} {Z : Zt} {m tab : Nat} {b : Nat → Nat} {g : Mem} (hb : BOk b) (hZ : MZ Z m) (hB : BIs g m b) (htab : tab < 4) : ∀ (d k fu : Nat) (w : Bool), d = b 84 - k → k ≤ b 84 → d < fu → (w = true ↔ ∃ t, t < k ∧ b (85 + t) = 65 + tab) → f_X11_occurs_l4 n Z m fu (nI tab) (if w then 1 else 0) (nI k) g = some (if occ b tab then 1 else 0, g) := by
  have h60 := hb.2.2.1
  intro d
  induction d with
  | zero =>
    intro k fu w h1 h2 h3 h4
    obtain ⟨fu, rfl⟩ : ∃ q, fu = q + 1 := ⟨fu - 1, by omega⟩
    have hk : k = b 84 := by omega
    subst hk
    have e : w = occ b tab := Bool.eq_iff_iff.mpr (h4.trans hasC_iff.symm)
    unfold f_X11_occurs_l4
    rw [hZ.f0, drf_s, grd_t hZ.k0, hZ.l0, grd_t (show inr (84 : Int32) 145 by decide), show (84 : Int32).toNatClampNeg = 84 from rfl, hB 84 (by omega), if_pos ((nle (by omega) (by omega)).mpr (Nat.le_refl _)), grd_t (isz_01 w), e]
  | succ d ih =>
    intro k fu w h1 h2 h3
    obtain ⟨fu, rfl⟩ : ∃ q, fu = q + 1 := ⟨fu - 1, by omega⟩
    have o1 : d = b 84 - (k + 1) := by omega
    have o2 : k + 1 ≤ b 84 := by omega
    have o3 : d < fu := by omega
    have o4 : k < k + 1 := by omega
    have hk : k < b 84 := by omega
    have hch := hb.chr hk
    have n16 : ¬ nI (b 84) ≤ nI k := ge_n (by omega) hk
    have h85 := hB (85 + k) (by omega)
    have o5 : 85 + k < 145 := by omega
    have o6 : 85 + k < 2147483648 := by omega
    have nq : b (85 + k) ≠ 65 + tab → ¬ nI (b (85 + k)) = nI (65 + tab) := neI (by omega) (by omega)
    intro h4
    unfold f_X11_occurs_l4
    rw [hZ.f0, drf_s, grd_t hZ.k0, hZ.l0, grd_t (show inr (84 : Int32) 145 by decide), show (84 : Int32).toNatClampNeg = 84 from rfl, hB 84 (by decide), if_neg n16]
    cases w with
    | true =>
      obtain ⟨t, t1, t2⟩ := h4.mp rfl
      rw [if_pos rfl, if_neg i10, nI_1]
      have := ih (k + 1) fu true o1 o2 o3 ⟨fun _ => ⟨t, Nat.lt_trans t1 o4, t2⟩, fun _ => rfl⟩
      rw [if_pos rfl] at this
      exact this
    | false =>
      have e1 : (85 : Int32) + nI k = nI (85 + k) := nI_add 85 k
      have e2 : (65 : Int32) + nI tab = nI (65 + tab) := nI_add 65 tab
      rw [if_neg ff, if_pos rfl, drf_s, grd_t hZ.k0, e1, e2]
      rw [hZ.l0, grd_t (by rw [inr_eq o6]; exact o5), clamp o6, h85]
      by_cases q : b (85 + k) = 65 + tab
      · rw [if_pos (by rw [q]), nI_1]
        have := ih (k + 1) fu true o1 o2 o3 ⟨fun _ => ⟨k, o4, q⟩, fun _ => rfl⟩
        rw [if_pos rfl] at this
        exact this
      · rw [if_neg (nq q), nI_1]
        have := ih (k + 1) fu false o1 o2 o3 ⟨fun z => absurd z ff, fun ⟨t, t1, t2⟩ => by
          by_cases z : t = k
          · subst z; exact absurd t2 q
          · exact h4.mpr ⟨t, Nat.lt_of_le_of_ne (Nat.le_of_lt_succ t1) z, t2⟩⟩
        rw [if_neg ff] at this
        exact this
theorem m_occ {n : Nat} {Z : Zt} {m tab : Nat} {b : Nat → Nat} {g : Mem} (hn : 100 ≤ n) (hb : BOk b) (hZ : MZ Z m) (hB : BIs g m b) (htab : tab < 4) : f_X11_occurs n Z m (nI tab) g = some (if occ b tab then 1 else 0, g) := by
  have h60 := hb.2.2.1
  unfold f_X11_occurs
  rw [grd_t hZ.k]
  have := m_occ4 (n := n) hb hZ hB htab (b 84) 0 n false (by omega) (by omega) (by omega) ⟨fun z => absurd z ff, fun ⟨t, t1, _⟩ => absurd t1 (Nat.not_lt_zero _)⟩
  rw [if_neg ff] at this
  exact this
/-- the least free tag from one on -/
def FTk (b : Nat → Nat) (k : Nat) : Option Nat → Prop
  | none => ∀ t, k ≤ t → t < 16 → b (4 + 5 * t) ≠ 0
  | some t => k ≤ t ∧ t < 16 ∧ b (4 + 5 * t) = 0 ∧ ∀ s, k ≤ s → s < t → b (4 + 5 * s) ≠ 0
def ftI : Option Nat → Int32
  | none => -6
  | some t => nI t
theorem m_free6 {n : Nat} {Z : Zt} {m : Nat} {b : Nat → Nat} {g : Mem} (hb : BOk b) (hZ : MZ Z m) (hB : BIs g m b) : ∀ (k fu : Nat) (o : Option Nat), k ≤ 16 → k < fu → FTk b k o → ∃ o', FT b o' ∧ f_X11_freeTag_l6 n Z m fu (ftI o) (nI k - 1) g = some (ftI o', g) := by
  intro k
  induction k with
  | zero =>
    intro fu o h1 h2 h3
    obtain ⟨fu, rfl⟩ : ∃ q, fu = q + 1 := ⟨fu - 1, by omega⟩
    refine ⟨o, ?_, ?_⟩
    · cases o with
      | none => exact fun t ht => h3 t (Nat.zero_le _) ht
      | some t => exact ⟨h3.2.1, h3.2.2.1, fun s hs => h3.2.2.2 s (Nat.zero_le _) hs⟩
    · unfold f_X11_freeTag_l6
      rw [if_pos (show nI 0 - 1 < 0 by decide)]
  | succ k ih =>
    intro fu o h1 h2 h3
    obtain ⟨fu, rfl⟩ : ∃ q, fu = q + 1 := ⟨fu - 1, by omega⟩
    have hb4 := (hb.2.1 k (by omega)).1
    unfold f_X11_freeTag_l6
    rw [nI_pred, if_neg (fun q => by rw [not_neg (by omega)] at q; exact q), of_0 hZ hB (by omega), bnd_s, m1S]
    by_cases q : b (4 + 5 * k) = 0
    · rw [q, if_pos (show nI 0 = 0 from rfl)]
      exact ih fu (some k) (by omega) (by omega) ⟨Nat.le_refl _, by omega, q, fun s h4 h5 => by omega⟩
    · rw [if_neg (show ¬ nI (b (4 + 5 * k)) = (0 : Int32) from neI (b := 0) (by omega) (by omega) q)]
      refine ih fu o (by omega) (by omega) ?_
      cases o with
      | none =>
        exact fun t t1 t2 => by
          by_cases w : t = k
          · subst w; exact q
          · exact h3 t (by omega) t2
      | some t =>
        exact ⟨by have := h3.1; omega, h3.2.1, h3.2.2.1, fun s s1 s2 => by
          by_cases w : s = k
          · subst w; exact q
          · exact h3.2.2.2 s (by omega) s2⟩
theorem m_free {n : Nat} {Z : Zt} {m : Nat} {b : Nat → Nat} {g : Mem} (hn : 40 ≤ n) (hb : BOk b) (hZ : MZ Z m) (hB : BIs g m b) : ∃ o, FT b o ∧ f_X11_freeTag n Z m g = some (ftI o, g) := by
  unfold f_X11_freeTag
  rw [grd_t hZ.k]
  exact m_free6 hb hZ hB 16 n none (by omega) (by omega) fun t t1 t2 => by omega

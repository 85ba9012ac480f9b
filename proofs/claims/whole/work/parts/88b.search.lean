/-! smallestCut: the search -/
theorem key_lt {x y : Nat} (hx : x < 65536) (hy : y < 65536) : key x < key y ↔ pc 16 x < pc 16 y ∨ (pc 16 x = pc 16 y ∧ x < y) := by
  unfold key
  generalize pc 16 x = a
  generalize pc 16 y = b
  rcases Nat.lt_trichotomy a b with q | q | q
  · have := Nat.mul_le_mul_right 65536 (show a + 1 ≤ b by omega)
    constructor
    · intro _; exact Or.inl q
    · intro _; omega
  · subst q; omega
  · have := Nat.mul_le_mul_right 65536 (show b + 1 ≤ a by omega)
    constructor
    · intro z; omega
    · intro z; omega
section SEARCH
variable {n : Nat} {Z : Zt} {g : Mem}
theorem c_better {x y : Nat} (hx : x < 65536) (hy : y < 65536) : f_X9_isBetterCut n Z (nI x) (nI y) g = some (if key x < key y then 1 else 0, g) := by
  have H : ∀ p q : Fin 17, (nI p.1 - nI q.1 < 0 ↔ p.1 < q.1) ∧ (nI p.1 - nI q.1 = 0 ↔ p.1 = q.1) := by decide +kernel
  have hp := pc_le 16 x
  have hq := pc_le 16 y
  have H' : (nI (pc 16 x) - nI (pc 16 y) < 0 ↔ pc 16 x < pc 16 y) ∧ (nI (pc 16 x) - nI (pc 16 y) = 0 ↔ pc 16 x = pc 16 y) := H ⟨pc 16 x, by omega⟩ ⟨pc 16 y, by omega⟩
  have K := key_lt hx hy
  unfold f_X9_isBetterCut
  rw [c_bits hx, bnd_s, c_bits hy, bnd_s]
  by_cases a : pc 16 x < pc 16 y
  · rw [if_pos (H'.1.mpr a), if_pos (K.mpr (Or.inl a))]
  · rw [if_neg (fun z => a (H'.1.mp z))]
    by_cases b : pc 16 x = pc 16 y
    · rw [if_pos (H'.2.mpr b)]
      by_cases d : x < y
      · rw [if_neg (fun z => by have := (nle (by omega) (by omega)).mp z; omega), if_pos (K.mpr (Or.inr ⟨b, d⟩))]
      · rw [if_pos ((nle (by omega) (by omega)).mpr (by omega)), if_neg (fun z => by rcases K.mp z with w | w <;> omega)]
    · rw [if_neg (fun z => b (H'.2.mp z)), if_neg (fun z => by rcases K.mp z with w | w <;> omega)]
theorem c_first {a M : Nat} {ys : Pol} (hZ : TZ Z a) (h : TsIs g a ys) (hM : M < 65536) : ∀ (d j fu : Nat), d = ys.length - j → j ≤ ys.length → d < fu → (∀ i, i < j → tsA ys i &&& M ≠ 0) → (hit ys M ∧ f_X9_firstWithout_l2 n Z fu (a + 1) (nI ys.length) (nI M) (nI j) g = some (0, g)) ∨ ∃ i, i < ys.length ∧ tsA ys i &&& M = 0 ∧ f_X9_firstWithout_l2 n Z fu (a + 1) (nI ys.length) (nI M) (nI j) g = some (nI (tsA ys i), g) := by
  have h32 := h.2.1
  intro d
  induction d with
  | zero =>
    intro j fu h1 h2 h3 h4
    obtain ⟨fu, rfl⟩ : ∃ q, fu = q + 1 := ⟨fu - 1, by omega⟩
    have hj : j = ys.length := by omega
    subst hj
    refine Or.inl ⟨h4, ?_⟩
    unfold f_X9_firstWithout_l2
    rw [if_pos ((nle (by omega) (by omega)).mpr (Nat.le_refl _))]
  | succ d ih =>
    intro j fu h1 h2 h3 h4
    obtain ⟨fu, rfl⟩ : ∃ q, fu = q + 1 := ⟨fu - 1, by omega⟩
    have hj : j < ys.length := by omega
    have ht := tsA_lt ys j
    have ha : tsA ys j &&& M ≤ M := Nat.and_le_right
    have hE : f_X9_firstWithout_l2 n Z (fu + 1) (a + 1) (nI ys.length) (nI M) (nI j) g = if nI (tsA ys j) &&& nI M = 0 then some (nI (tsA ys j), g) else f_X9_firstWithout_l2 n Z fu (a + 1) (nI ys.length) (nI M) (nI (j + 1)) g := by
      rw [f_X9_firstWithout_l2]
      have hI : inr (nI j) 32 := by rw [inr_eq (by omega)]; omega
      have hN : ¬ Int32.ofNat 32 ≤ nI j := ge_n (N := 32) (by omega) (by omega)
      simp only [if_neg (ge_n (show ys.length < 2147483648 by omega) hj), grd_t hZ.k0, hZ.l0, if_neg hN, grd_t hI, clamp (show j < 2147483648 by omega), h.2.2 j hj, nI_1]
    rw [hE, and_n (by omega) (by omega)]
    by_cases q : tsA ys j &&& M = 0
    · refine Or.inr ⟨j, hj, q, ?_⟩
      rw [q, if_pos (show nI 0 = (0 : Int32) from rfl)]
    · rw [if_neg (show ¬ nI _ = (0 : Int32) from neI (b := 0) (by omega) (by omega) q)]
      exact ih (j + 1) fu (by omega) (by omega) (by omega) fun i hi => by
        by_cases w : i = j
        · subst w; exact q
        · exact h4 i (by omega)
/-- the best of all that hit and hold M -/
def Bst (ys : Pol) (M B r : Nat) : Prop := r < 65536 ∧ hit ys r ∧ key r ≤ key B ∧ ∀ s, s < 65536 → M &&& s = M → hit ys s → key r ≤ key s
theorem c_search {a : Nat} {ys : Pol} (hn : 40 ≤ n) (hZ : TZ Z a) (h : TsIs g a ys) (h0 : ∀ j, j < ys.length → tsA ys j ≠ 0) : ∀ (dp M B : Nat), M < 65536 → B < 65536 → 17 ≤ dp + pc 16 M → hit ys B → ∃ r, Bst ys M B r ∧ f_X9_searchCut n Z dp (a + 1) (nI ys.length) (nI M) (nI B) (nI (pc 16 M)) g = some (nI r, g)
  | 0, M, B, hM, hB, hd, hB' => by have := pc_le 16 M; omega
  | dp + 1, M, B, hM, hB, hd, hB' => by
    have hp := pc_le 16 M
    have hq := pc_le 16 B
    have h32 := h.2.1
    rw [f_X9_searchCut]
    unfold f_X9_firstWithout
    rcases c_first (n := n) (Z := Z) hZ h hM ys.length 0 n (by omega) (Nat.zero_le _) (by omega) (fun i hi => absurd hi (Nat.not_lt_zero _)) with ⟨f1, f2⟩ | ⟨i, hi, f1, f2⟩
    · rw [show (0 : Int32) = nI 0 from rfl, f2, bnd_s, show (0 : Int32) = nI 0 from rfl, if_pos rfl, c_better hM hB, bnd_s]
      by_cases q : key M < key B
      · refine ⟨M, ⟨hM, f1, by omega, fun s _ h2 _ => key_sub h2⟩, ?_⟩
        rw [if_pos q, if_neg (show ¬ (1 : Int32) = nI 0 from i10)]
      · refine ⟨B, ⟨hB, hB', Nat.le_refl _, fun s _ h2 _ => by have := key_sub h2; omega⟩, ?_⟩
        rw [if_neg q, if_pos (show (0 : Int32) = nI 0 from rfl)]
    · have hT := tsA_lt ys i
      have hT0 := h0 i hi
      obtain ⟨i0, hi0, hb0⟩ := bit_of hT0 hT
      have hp1 := pc_or 16 M i0 hi0 (and_bit f1 hb0)
      have hp2 := pc_le 16 (M ||| 2 ^ i0)
      rw [show (0 : Int32) = nI 0 from rfl, f2, bnd_s, if_neg (show ¬ nI (tsA ys i) = nI 0 from neI (b := 0) (by omega) (by omega) hT0), if_neg (show ¬ (16 : Int32) ≤ nI (pc 16 M) from ge_n (N := 16) (by omega) (by omega)), c_bits hM, bnd_s, c_bits hB, bnd_s]
      by_cases q : pc 16 M < pc 16 B
      · rw [if_pos ((nlt (by omega) (by omega)).mpr q)]
        have L : ∀ (d k fu C : Nat), d = 16 - k → k ≤ 16 → d < fu → C < 65536 → hit ys C → key C ≤ key B → (∀ s, s < 65536 → M &&& s = M → hit ys s → (∃ j, j < k ∧ (tsA ys i).testBit j = true ∧ s.testBit j = true) → key C ≤ key s) → ∃ r, Bst ys M B r ∧ f_X9_searchCut_l53 n Z (fun y0 y1 y2 y3 y4 y => f_X9_searchCut n Z dp y0 y1 y2 y3 y4 y) fu (a + 1) (nI ys.length) (nI M) (nI (pc 16 M)) (nI (tsA ys i)) (nI C) (nI k) g = some (nI r, g) := by
          intro d
          induction d with
          | zero =>
            intro k fu C e1 e2 e3 e4 e5 e6 e7
            obtain ⟨fu, rfl⟩ : ∃ q, fu = q + 1 := ⟨fu - 1, by omega⟩
            have hk : k = 16 := by omega
            subst hk
            refine ⟨C, ⟨e4, e5, e6, fun s s1 s2 s3 => e7 s s1 s2 s3 ?_⟩, ?_⟩
            · obtain ⟨j, j1, j2⟩ := bit_of (T := tsA ys i &&& s) (s3 i hi) (Nat.lt_of_le_of_lt Nat.and_le_left hT)
              rw [Nat.testBit_and, Bool.and_eq_true] at j2
              exact ⟨j, j1, j2⟩
            · unfold f_X9_searchCut_l53
              rw [if_pos (show (16 : Int32) ≤ nI 16 by decide)]
          | succ d ih =>
            intro k fu C e1 e2 e3 e4 e5 e6 e7
            obtain ⟨fu, rfl⟩ : ∃ q, fu = q + 1 := ⟨fu - 1, by omega⟩
            have hk : k < 16 := by omega
            unfold f_X9_searchCut_l53
            rw [if_neg (show ¬ (16 : Int32) ≤ nI k from ge_n (N := 16) (by omega) hk), BM.bit (p := (tsA ys i).testBit) ⟨hT, fun _ _ => rfl⟩ hk]
            by_cases w : (tsA ys i).testBit k = true
            · have hw := and_bit f1 w
              have hpk := pc_or 16 M k hk hw
              have h2k := p2_lt hk
              have hlt : M ||| 2 ^ k < 65536 := Nat.or_lt_two_pow (n := 16) hM h2k
              obtain ⟨r, ⟨r1, r2, r3, r4⟩, r5⟩ := c_search hn hZ h h0 dp (M ||| 2 ^ k) C hlt e4 (by omega) e5
              rw [hpk] at r5
              rw [if_pos w, if_neg i10, one_shl hk, or_n (by omega) (by omega), nI_1, r5, bnd_s, nI_1]
              refine ih (k + 1) fu r (by omega) (by omega) (by omega) r1 r2 (by omega) fun s s1 s2 s3 s4 => ?_
              obtain ⟨j, j1, j2, j3⟩ := s4
              by_cases u : j = k
              · subst u
                exact r4 s s1 (sub_or s2 j3) s3
              · have := e7 s s1 s2 s3 ⟨j, by omega, j2, j3⟩
                omega
            · rw [if_neg w, if_pos rfl, nI_1]
              refine ih (k + 1) fu C (by omega) (by omega) (by omega) e4 e5 e6 fun s s1 s2 s3 s4 => ?_
              obtain ⟨j, j1, j2, j3⟩ := s4
              by_cases u : j = k
              · subst u; exact absurd j2 w
              · exact e7 s s1 s2 s3 ⟨j, by omega, j2, j3⟩
        exact L 16 0 n B (by omega) (by omega) (by omega) hB hB' (Nat.le_refl _) fun s _ _ _ s4 => by
          obtain ⟨j, j1, _⟩ := s4
          exact absurd j1 (Nat.not_lt_zero _)
      · rw [if_neg (fun z => q ((nlt (by omega) (by omega)).mp z))]
        refine ⟨B, ⟨hB, hB', Nat.le_refl _, fun s s1 s2 s3 => ?_⟩, rfl⟩
        have hs := pc_sub 16 M s s2
        have hne : M ≠ s := fun z => by rw [← z] at s3; exact s3 i hi f1
        have hlt : pc 16 M < pc 16 s := by
          have h5 := hs.1
          by_cases u : pc 16 M = pc 16 s
          · exact absurd (hs.2 hM s1 u) hne
          · omega
        have := (key_lt hB s1).mpr (Or.inl (by omega))
        omega
theorem union_l4 {a : Nat} {ys : Pol} (hZ : TZ Z a) (h : TsIs g a ys) : ∀ (d j fu U : Nat), d = ys.length - j → j ≤ ys.length → d < fu → U < 65536 → ∃ V, V < 65536 ∧ f_X9_union_l4 n Z a fu (nI U) (nI j) g = some (nI V, g) ∧ U &&& V = U ∧ (∀ i, j ≤ i → i < ys.length → tsA ys i &&& V = tsA ys i) ∧ ∀ W, U &&& W = U → (∀ i, j ≤ i → i < ys.length → tsA ys i &&& W = tsA ys i) → V &&& W = V := by
  have h32 := h.2.1
  intro d
  induction d with
  | zero =>
    intro j fu U h1 h2 h3 h4
    obtain ⟨fu, rfl⟩ : ∃ q, fu = q + 1 := ⟨fu - 1, by omega⟩
    have hj : j = ys.length := by omega
    subst hj
    refine ⟨U, h4, ?_, Nat.and_self _, fun i i1 i2 => by omega, fun W w _ => w⟩
    unfold f_X9_union_l4
    rw [h.1, if_pos ((nle (by omega) (by omega)).mpr (Nat.le_refl _))]
  | succ d ih =>
    intro j fu U h1 h2 h3 h4
    obtain ⟨fu, rfl⟩ : ∃ q, fu = q + 1 := ⟨fu - 1, by omega⟩
    have hj : j < ys.length := by omega
    have ht := tsA_lt ys j
    have hlt : U ||| tsA ys j < 65536 := Nat.or_lt_two_pow (n := 16) h4 ht
    obtain ⟨V, v1, v2, v3, v4, v5⟩ := ih (j + 1) fu (U ||| tsA ys j) (by omega) (by omega) (by omega) hlt
    have oA : ∀ W, (U ||| tsA ys j) &&& W = U ||| tsA ys j ↔ U &&& W = U ∧ tsA ys j &&& W = tsA ys j := fun W => by
      constructor
      · intro z
        constructor
        · apply Nat.eq_of_testBit_eq; intro k
          have hk : ((U ||| tsA ys j) &&& W).testBit k = (U ||| tsA ys j).testBit k := by rw [z]
          rw [Nat.testBit_and, Nat.testBit_or] at hk
          rw [Nat.testBit_and]
          revert hk
          cases U.testBit k <;> cases (tsA ys j).testBit k <;> cases W.testBit k <;> simp
        · apply Nat.eq_of_testBit_eq; intro k
          have hk : ((U ||| tsA ys j) &&& W).testBit k = (U ||| tsA ys j).testBit k := by rw [z]
          rw [Nat.testBit_and, Nat.testBit_or] at hk
          rw [Nat.testBit_and]
          revert hk
          cases U.testBit k <;> cases (tsA ys j).testBit k <;> cases W.testBit k <;> simp
      · rintro ⟨z1, z2⟩
        rw [Nat.and_or_distrib_right, z1, z2]
    refine ⟨V, v1, ?_, ((oA V).mp v3).1, fun i i1 i2 => ?_, fun W w1 w2 => v5 W ((oA W).mpr ⟨w1, w2 j (Nat.le_refl _) hj⟩) fun i i1 i2 => w2 i (by omega) i2⟩
    · unfold f_X9_union_l4
      rw [h.1, if_neg (ge_n (by omega) hj), if_neg (show ¬ (32 : Int32) ≤ nI j from ge_n (N := 32) (by omega) (by omega)), hZ.f0, drf_s, grd_t hZ.k0, hZ.l0, grd_t (show inr (nI j) 32 by rw [inr_eq (by omega)]; omega), clamp (by omega), h.2.2 j hj, or_n (by omega) (by omega), nI_1]
      exact v2
    · by_cases q : i = j
      · subst q; exact ((oA V).mp v3).2
      · exact v4 i (by omega) i2
theorem c_union {a : Nat} {ys : Pol} (hn : 40 ≤ n) (hZ : TZ Z a) (h : TsIs g a ys) : ∃ V, V < 65536 ∧ f_X9_union n Z a g = some (nI V, g) ∧ (∀ i, i < ys.length → tsA ys i &&& V = tsA ys i) ∧ ∀ W, (∀ i, i < ys.length → tsA ys i &&& W = tsA ys i) → V &&& W = V := by
  have h32 := h.2.1
  obtain ⟨V, v1, v2, v3, v4, v5⟩ := union_l4 (n := n) hZ h ys.length 0 n 0 (by omega) (Nat.zero_le _) (by omega) (by omega)
  refine ⟨V, v1, ?_, fun i hi => v4 i (Nat.zero_le _) hi, fun W w => v5 W (Nat.zero_and _) fun i _ hi => w i hi⟩
  unfold f_X9_union
  rw [grd_t hZ.k]; exact v2
theorem c_least {a : Nat} {ys : Pol} (hn : 40 ≤ n) (hZ : TZ Z a) (h : TsIs g a ys) (h0 : ∀ j, j < ys.length → tsA ys j ≠ 0) : ∃ r, r < 65536 ∧ f_X9_leastCut n Z a g = some (nI r, g) ∧ hit ys r ∧ ∀ s, s < 65536 → hit ys s → key r ≤ key s := by
  obtain ⟨V, v1, v2, v3, -⟩ := c_union (n := n) hn hZ h
  obtain ⟨r, ⟨r1, r2, r3, r4⟩, r5⟩ := c_search (n := n) hn hZ h h0 40 0 V (by omega) v1 (by omega) (fun j hj => by rw [v3 j hj]; exact h0 j hj)
  refine ⟨r, r1, ?_, r2, fun s s1 s2 => r4 s s1 (Nat.zero_and _) s2⟩
  unfold f_X9_leastCut
  rw [grd_t hZ.k, hZ.f0, drf_s, v2, bnd_s, h.1]
  rw [show pc 16 0 = 0 from pc_0 16] at r5
  rw [show (0 : Int32) = nI 0 from rfl, r5, bnd_s]
/-! the reference -/
theorem m_meets4 {m M : Nat} {ys : Pol} (hM' : MZ Z m) (h : MsIs g m ys) (hM : M < 65536) : ∀ (d j fu : Nat), d = ys.length - j → j ≤ ys.length → d + 1 < fu → (∀ i, i < j → tsA ys i &&& M ≠ 0) → (hit ys M ∧ f_X11_meetsAll_l4 n Z m fu (nI M) 1 (nI j) g = some (1, g)) ∨ (¬ hit ys M ∧ f_X11_meetsAll_l4 n Z m fu (nI M) 1 (nI j) g = some (0, g)) := by
  have h32 := h.2.1
  intro d
  induction d with
  | zero =>
    intro j fu h1 h2 h3 h4
    obtain ⟨fu, rfl⟩ : ∃ q, fu = q + 1 := ⟨fu - 1, by omega⟩
    have hj : j = ys.length := by omega
    subst hj
    refine Or.inl ⟨h4, ?_⟩
    unfold f_X11_meetsAll_l4
    rw [h.1, if_pos ((nle (by omega) (by omega)).mpr (Nat.le_refl _)), grd_t (show isz (1 : Int32) from isz_01 true)]
  | succ d ih =>
    intro j fu h1 h2 h3 h4
    obtain ⟨fu, rfl⟩ : ∃ q, fu = q + 1 := ⟨fu - 1, by omega⟩
    have hj : j < ys.length := by omega
    have ht := tsA_lt ys j
    have ha : tsA ys j &&& M ≤ M := Nat.and_le_right
    unfold f_X11_meetsAll_l4
    rw [h.1, if_neg (ge_n (by omega) hj), if_neg i10, hM'.f28, drf_s, grd_t hM'.k28, hM'.l28, grd_t (show inr (nI j) 32 by rw [inr_eq (by omega)]; omega), clamp (by omega), h.2.2 j hj, and_n (by omega) (by omega), nI_1]
    by_cases q : tsA ys j &&& M = 0
    · refine Or.inr ⟨fun z => z j hj q, ?_⟩
      rw [q, if_pos (show nI 0 = (0 : Int32) from rfl)]
      obtain ⟨fu, rfl⟩ : ∃ q, fu = q + 1 := ⟨fu - 1, by omega⟩
      unfold f_X11_meetsAll_l4
      have hz : isz (0 : Int32) := isz_01 false
      rw [h.1]
      by_cases w : nI ys.length ≤ nI (j + 1)
      · rw [if_pos w, grd_t hz]
      · rw [if_neg w, if_pos rfl, grd_t hz]
    · rw [if_neg (show ¬ nI _ = (0 : Int32) from neI (b := 0) (by omega) (by omega) q)]
      exact ih (j + 1) fu (by omega) (by omega) (by omega) fun i hi => by
        by_cases w : i = j
        · subst w; exact q
        · exact h4 i (by omega)
theorem m_meets {m M : Nat} {ys : Pol} (hn : 40 ≤ n) (hM' : MZ Z m) (h : MsIs g m ys) (hM : M < 65536) : (hit ys M ∧ f_X11_meetsAll n Z m (nI M) g = some (1, g)) ∨ (¬ hit ys M ∧ f_X11_meetsAll n Z m (nI M) g = some (0, g)) := by
  have h32 := h.2.1
  unfold f_X11_meetsAll
  rw [grd_t hM'.k]
  exact m_meets4 hM' h hM ys.length 0 n (by omega) (Nat.zero_le _) (by omega) fun i hi => absurd hi (Nat.not_lt_zero _)
def CutI (ys : Pol) (k : Nat) : Option Nat → Prop
  | none => ∀ s, s < k → ¬ hit ys s
  | some r => r < k ∧ hit ys r ∧ ∀ s, s < k → hit ys s → key r ≤ key s
theorem nim6 {i : Nat} (h : i < 65536) : ¬ nI i = (-6 : Int32) := by
  intro z
  have h1 : nI i < 0 := by rw [z]; decide
  have h2 := (nle (a := 0) (b := i) (by omega) (by omega)).mpr (Nat.zero_le _)
  exact absurd h1 (Int32.not_lt.mpr h2)
theorem m_cut25 {m : Nat} {ys : Pol} (hn : 40 ≤ n) (hM' : MZ Z m) (h : MsIs g m ys) (hl : 0 < ys.length) : ∀ (d k fu : Nat) (o : Option Nat), d = 65536 - k → k ≤ 65536 → d < fu → CutI ys k o → ∃ o', CutI ys 65536 o' ∧ f_X11_smallestCut_l25 n Z m fu (ftI o) (nI k) g = some (ftI o', g) := by
  have h32 := h.2.1
  intro d
  induction d with
  | zero =>
    intro k fu o h1 h2 h3 h4
    obtain ⟨fu, rfl⟩ : ∃ q, fu = q + 1 := ⟨fu - 1, by omega⟩
    have hk : k = 65536 := by omega
    subst hk
    refine ⟨o, h4, ?_⟩
    unfold f_X11_smallestCut_l25
    rw [if_pos (show (65536 : Int32) ≤ nI 65536 by decide)]
  | succ d ih =>
    intro k fu o h1 h2 h3 h4
    obtain ⟨fu, rfl⟩ : ∃ q, fu = q + 1 := ⟨fu - 1, by omega⟩
    have hk : k < 65536 := by omega
    have hskip : ¬ hit ys k → CutI ys (k + 1) o := fun q => by
      cases o with
      | none =>
        intro s hs
        by_cases w : s = k
        · subst w; exact q
        · exact h4 s (by omega)
      | some r =>
        obtain ⟨a1, a2, a3⟩ := h4
        refine ⟨by omega, a2, fun s hs hs' => ?_⟩
        by_cases w : s = k
        · subst w; exact absurd hs' q
        · exact a3 s (by omega) hs'
    have hmeet : (hit ys k → CutI ys (k + 1) (some k)) → ∃ o', CutI ys 65536 o' ∧ f_X11_smallestCut_l61 n Z (fun y0 y1 y => f_X11_smallestCut_l25 n Z m fu y0 y1 y) m (ftI o) (nI k) 1 g = some (ftI o', g) := fun q => by
      unfold f_X11_smallestCut_l61
      rw [if_neg i10]
      rcases m_meets (n := n) hn hM' h hk with ⟨w1, w2⟩ | ⟨w1, w2⟩
      · rw [w2, bnd_s, if_neg i10, nI_1]
        exact ih (k + 1) fu (some k) (by omega) (by omega) (by omega) (q w1)
      · rw [w2, bnd_s, if_pos rfl, nI_1]
        exact ih (k + 1) fu o (by omega) (by omega) (by omega) (hskip w1)
    unfold f_X11_smallestCut_l25
    rw [if_neg (show ¬ (65536 : Int32) ≤ nI k from ge_n (N := 65536) (by omega) hk), h.1, if_neg (show ¬ nI ys.length ≤ 0 from ge_n (k := 0) (by omega) hl)]
    cases o with
    | none =>
      rw [if_pos (show ftI none = (-6 : Int32) from rfl)]
      exact hmeet fun q => ⟨by omega, q, fun s hs hs' => by
        by_cases w : s = k
        · subst w; exact Nat.le_refl _
        · exact absurd hs' (h4 s (by omega))⟩
    | some r =>
      obtain ⟨a1, a2, a3⟩ := h4
      have hp := pc_le 16 k
      have hq := pc_le 16 r
      rw [if_neg (show ¬ ftI (some r) = (-6 : Int32) from nim6 (by omega)), m_ones hn hk, bnd_s, show ftI (some r) = nI r from rfl, m_ones hn (by omega), bnd_s]
      have K := key_lt (x := k) (y := r) hk (by omega)
      by_cases w : pc 16 r ≤ pc 16 k
      · rw [if_pos ((nle (by omega) (by omega)).mpr w)]
        unfold f_X11_smallestCut_l61
        rw [if_pos rfl, nI_1]
        refine ih (k + 1) fu (some r) (by omega) (by omega) (by omega) ⟨by omega, a2, fun s hs hs' => ?_⟩
        by_cases u : s = k
        · subst u
          have : ¬ key s < key r := fun z => by rcases K.mp z with y | y <;> omega
          omega
        · exact a3 s (by omega) hs'
      · rw [if_neg (fun z => w ((nle (by omega) (by omega)).mp z))]
        refine hmeet fun q => ⟨by omega, q, fun s hs hs' => ?_⟩
        by_cases u : s = k
        · subst u; exact Nat.le_refl _
        · have e1 := a3 s (by omega) hs'
          have e2 := K.mpr (Or.inl (by omega))
          omega
theorem m_cut0 {m k fu : Nat} {x : Int32} {ys : Pol} (h : MsIs g m ys) (hl : ys.length = 0) (hf : 0 < fu) (hk : k < 65536) : f_X11_smallestCut_l25 n Z m fu x (nI k) g = some (x, g) := by
  obtain ⟨fu, rfl⟩ : ∃ q, fu = q + 1 := ⟨fu - 1, by omega⟩
  unfold f_X11_smallestCut_l25
  rw [if_neg (show ¬ (65536 : Int32) ≤ nI k from ge_n (N := 65536) (by omega) hk), h.1, hl, if_pos (show nI 0 ≤ (0 : Int32) by decide)]
end SEARCH

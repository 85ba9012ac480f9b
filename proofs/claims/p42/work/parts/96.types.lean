/-! types: a text is typed; asks: it is asked for -/
def Ty (c : Nat) (b : Nat → Nat) (hb : List (Nat → Nat)) (v : Vl) (L : Nat) (f : Mem → Option (Int32 × Mem)) : Prop := ∀ (g : Mem) (len : Nat) (T : Nat → Nat), len ≤ L → SI g c b hb len T v → ∃ g', f g = some (1, g') ∧ (∃ len' T', SI g' c b hb len' T' v) ∧ Fr c (c + 1462) g g'
section TYPES
variable {n : Nat} {Z : Zt} {c L : Nat} {b : Nat → Nat} {hb : List (Nat → Nat)} {v : Vl}
theorem Ty.mono {L' : Nat} {f : Mem → Option (Int32 × Mem)} (h : Ty c b hb v L' f) (hL : L ≤ L') : Ty c b hb v L f := fun g len T hl hS => h g len T (Nat.le_trans hl hL) hS
theorem Ty.eq {f f' : Mem → Option (Int32 × Mem)} (e : ∀ g, f g = f' g) (h : Ty c b hb v L f') : Ty c b hb v L f := fun g len T hl hS => by
  rw [e g]; exact h g len T hl hS
theorem Ty.pos {p : Prop} [Decidable p] {f h : Mem → Option (Int32 × Mem)} (hp : p) (hf : Ty c b hb v L f) : Ty c b hb v L (fun g => if p then f g else h g) := fun g len T hl hS => by
  dsimp only
  rw [if_pos hp]; exact hf g len T hl hS
theorem Ty.neg {p : Prop} [Decidable p] {f h : Mem → Option (Int32 × Mem)} (hp : ¬ p) (hf : Ty c b hb v L h) : Ty c b hb v L (fun g => if p then f g else h g) := fun g len T hl hS => by
  dsimp only
  rw [if_neg hp]; exact hf g len T hl hS
theorem Ty.ite {p : Prop} [Decidable p] {f h : Mem → Option (Int32 × Mem)} (h1 : p → Ty c b hb v L f) (h2 : ¬ p → Ty c b hb v L h) : Ty c b hb v L (fun g => if p then f g else h g) := by
  by_cases q : p
  · exact Ty.pos q (h1 q)
  · exact Ty.neg q (h2 q)
theorem Ty.one {x : Int32} (hx : x = 1) : Ty c b hb v L (fun g => grd (isz x) (some (x, g))) := fun g len T hl hS => ⟨g, by dsimp only; rw [hx, grd_t (Or.inr rfl)], ⟨len, T, hS⟩, Fr.rfl⟩
theorem Ty.low {x y : Int32} {m : Nat} {k : Int32 → Mem → Option (Int32 × Mem)} (hy : y = nI m) (h0 : 0 < m) (hm : m < 2147483648) (h : Ty c b hb v L (k (nI (lowN x m)))) : Ty c b hb v L (fun g => bnd (f_L_low n Z x y g) k) := fun g len T hl hS => by
  dsimp only
  rw [hy, low_ok h0 hm, bnd_s]; exact h g len T hl hS
theorem Ty.app {x : Int32} {w : Nat} {f h : Mem → Option (Int32 × Mem)} (hC : CZ Z c) (hx : x = nI w) (h1 : 32 ≤ w) (h2 : w ≤ 126) (hL : L < 60) (hh : Ty c b hb v (L + 1) h) : Ty c b hb v L (fun g => bnd (f_X10_append n Z c x g) (fun r g => if r ≤ 0 then f g else h g)) := fun g len T hl hS => by
  dsimp only
  obtain ⟨g1, T1, a1, a2, a3⟩ := tx_append (n := n) hC h1 h2 (by omega) hS
  rw [hx, a1, bnd_s, if_neg (fun z => by
    have := (nle (b := 0) (by omega) (by omega)).mp z
    omega)]
  obtain ⟨g2, b1, b2, b3⟩ := hh g1 (len + 1) T1 (by omega) a2
  exact ⟨g2, b1, b2, a3.trans b3⟩
theorem lt_4 {x : Int32} {m : Nat} (h : 0 < m) : lowN x m < m := lowN_lt h
section CHAIN
variable {κ : Nat → Int32 → Int32 → Int32 → Int32 → Int32 → Int32 → Mem → Option (Int32 × Mem)} {x1 x3 x4 x5 x6 : Int32} {h : Nat}
theorem ty_251 (hC : CZ Z c) (hh : h < 4) (hL : L < 40) (hκ : Ty c b hb v (L + 2) (fun g => κ c x1 1 (x3 + 1) x4 x5 (x6 + 1) g)) : Ty c b hb v L (fun g => f_L_types_l251 n Z κ c x1 x3 x4 x5 x6 (nI h) 1 g) := by
  have h4 := lowN_lt (x := x4 >>> ((5 : Int32) &&& 31)) (m := 4) (by omega)
  refine Ty.eq (fun g => by rw [f_L_types_l251]) ?_
  refine Ty.ite (fun _ => hκ.mono (by omega)) fun _ => ?_
  refine Ty.neg i1z (Ty.low (m := 4) rfl (by omega) (by omega) ?_)
  refine Ty.app (w := 65 + lowN (x4 >>> ((5 : Int32) &&& 31)) 4) hC (nI_add 65 _) (by omega) (by omega) (by omega) ?_
  exact Ty.app (w := 44) hC rfl (by omega) (by omega) (by omega) hκ
theorem ty_233 (hC : CZ Z c) (hh : h < 4) (hL : L < 39) (hκ : Ty c b hb v (L + 3) (fun g => κ c x1 1 (x3 + 1) x4 x5 (x6 + 1) g)) : Ty c b hb v L (fun g => f_L_types_l233 n Z κ c x1 1 x3 x4 x5 x6 (nI h) g) := by
  refine Ty.eq (fun g => by rw [f_L_types_l233]) ?_
  exact Ty.neg i1z (Ty.app (w := 40) hC rfl (by omega) (by omega) (by omega) (ty_251 hC hh (by omega) hκ))
theorem ty_205 (hC : CZ Z c) (hh : h < 4) (hL : L < 30) (hκ : Ty c b hb v (L + 4) (fun g => κ c x1 1 (x3 + 1) x4 x5 (x6 + 1) g)) : Ty c b hb v L (fun g => f_L_types_l205 n Z κ c x1 1 x3 x4 x5 x6 (nI h) g) := by
  have h4 := lowN_lt (x := x4 >>> ((4 : Int32) &&& 31)) (m := 2) (by omega)
  refine Ty.eq (fun g => by rw [f_L_types_l205]) ?_
  refine Ty.neg i1z (Ty.low (m := 2) rfl (by omega) (by omega) ?_)
  refine Ty.app (w := 48 + lowN (x4 >>> ((4 : Int32) &&& 31)) 2) hC (nI_add 48 _) (by omega) (by omega) (by omega) ?_
  refine Ty.eq (fun g => by rw [f_L_types_l232]) ?_
  exact ty_233 hC hh (by omega) hκ
theorem ty_194 (hC : CZ Z c) (hh : h < 4) (hL : L < 30) (hκ : Ty c b hb v (L + 4) (fun g => κ c x1 1 (x3 + 1) x4 x5 (x6 + 1) g)) : Ty c b hb v L (fun g => f_L_types_l194 n Z κ c x1 1 x3 x4 x5 x6 (nI h) g) := by
  refine Ty.eq (fun g => by rw [f_L_types_l194]) ?_
  refine Ty.ite (fun _ => ty_205 hC hh hL hκ) fun _ => ?_
  exact Ty.ite (fun _ => ty_205 hC hh hL hκ) fun _ => ty_233 hC hh (by omega) (hκ.mono (by omega))
theorem ty_182 (hC : CZ Z c) (hh : h < 4) (hL : L < 29) {s0 : Int32} {w : Nat} (hs : s0 = nI w) (w1 : 32 ≤ w) (w2 : w ≤ 126) (hκ : Ty c b hb v (L + 5) (fun g => κ c x1 1 (x3 + 1) x4 x5 (x6 + 1) g)) : Ty c b hb v L (fun g => f_L_types_l182 n Z κ c x1 x3 x4 x5 x6 (nI h) s0 c g) := by
  refine Ty.eq (fun g => by rw [f_L_types_l182]) ?_
  refine Ty.app (w := w) hC hs w1 w2 (by omega) ?_
  refine Ty.eq (fun g => by rw [f_L_types_l193]) ?_
  exact ty_194 hC hh (by omega) hκ
theorem ty_154 (hC : CZ Z c) (hh : h < 4) (hL : L < 20) (hκ : Ty c b hb v (L + 5) (fun g => κ c x1 1 (x3 + 1) x4 x5 (x6 + 1) g)) : Ty c b hb v L (fun g => f_L_types_l154 n Z κ c x1 1 x3 x4 x5 x6 (nI h) g) := by
  refine Ty.eq (fun g => by rw [f_L_types_l154]) ?_
  refine Ty.ite (fun _ => ?_) fun _ => ty_194 hC hh (by omega) (hκ.mono (by omega))
  refine Ty.neg i1z (Ty.low (m := 2) rfl (by omega) (by omega) ?_)
  exact Ty.ite (fun _ => ty_182 (w := 61) hC hh (by omega) rfl (by omega) (by omega) hκ) fun _ => ty_182 (w := 126) hC hh (by omega) rfl (by omega) (by omega) hκ
theorem ty_138 (hC : CZ Z c) (hh : h < 4) (hL : L < 18) {s0 s1 : Int32} {m : Nat} (hs : s0 = nI m) (h0 : 0 < m) (hm : m ≤ 5) (hκ : Ty c b hb v (L + 6) (fun g => κ c x1 1 (x3 + 1) x4 x5 (x6 + 1) g)) : Ty c b hb v L (fun g => f_L_types_l138 n Z κ c x1 x3 x4 x5 x6 (nI h) s0 s1 48 c g) := by
  have h4 := lowN_lt (x := s1) (m := m) h0
  refine Ty.eq (fun g => by rw [f_L_types_l138]) ?_
  refine Ty.low hs h0 (by omega) ?_
  refine Ty.app (w := 48 + lowN s1 m) hC (nI_add 48 _) (by omega) (by omega) (by omega) ?_
  refine Ty.eq (fun g => by rw [f_L_types_l153]) ?_
  exact ty_154 hC hh (by omega) hκ
theorem ty_103 (hC : CZ Z c) (hh : h < 4) (hL : L < 18) (hκ : Ty c b hb v (L + 6) (fun g => κ c x1 1 (x3 + 1) x4 x5 (x6 + 1) g)) : Ty c b hb v L (fun g => f_L_types_l103 n Z κ c x1 x3 x4 x5 x6 (nI h) 1 g) := by
  refine Ty.eq (fun g => by rw [f_L_types_l103]) ?_
  refine Ty.ite (fun _ => ty_154 hC hh (by omega) (hκ.mono (by omega))) fun _ => ?_
  refine Ty.neg i1z (Ty.low (m := 9) rfl (by omega) (by omega) ?_)
  exact Ty.ite (fun _ => ty_138 (m := 5) hC hh hL rfl (by omega) (by omega) hκ) fun _ => ty_138 (m := 2) hC hh hL rfl (by omega) (by omega) hκ
theorem ty_92 (hC : CZ Z c) (hh : h < 4) (hL : L < 17) {s0 : Int32} {w : Nat} (hs : s0 = nI w) (w1 : 32 ≤ w) (w2 : w ≤ 126) (hκ : Ty c b hb v (L + 7) (fun g => κ c x1 1 (x3 + 1) x4 x5 (x6 + 1) g)) : Ty c b hb v L (fun g => f_L_types_l92 n Z κ c x1 x3 x4 x5 x6 (nI h) s0 c g) := by
  refine Ty.eq (fun g => by rw [f_L_types_l92]) ?_
  exact Ty.app (w := w) hC hs w1 w2 (by omega) (ty_103 hC hh (by omega) hκ)
end CHAIN
theorem ty_367 (hC : CZ Z c) {m : Nat} (hm : m ≤ 2) : ∀ (d k fu L : Nat), d = m - k → k ≤ 2 → d < fu → L + d < 60 → Ty c b hb v L (fun g => f_L_types_l367 n Z fu c 1 (nI m) (nI k) g) := by
  intro d
  induction d with
  | zero =>
    intro k fu L hd hk hfu hL
    obtain ⟨fu, rfl⟩ : ∃ q, fu = q + 1 := ⟨fu - 1, by omega⟩
    refine Ty.eq (fun g => by rw [f_L_types_l367]) ?_
    exact Ty.pos ((nle (by omega) (by omega)).mpr (by omega)) (Ty.one rfl)
  | succ d ih =>
    intro k fu L hd hk hfu hL
    obtain ⟨fu, rfl⟩ : ∃ q, fu = q + 1 := ⟨fu - 1, by omega⟩
    refine Ty.eq (fun g => by rw [f_L_types_l367]) ?_
    refine Ty.neg (ge_n (by omega) (by omega)) (Ty.neg i1z (Ty.app (w := 41) hC rfl (by omega) (by omega) (by omega) ?_))
    rw [nI_1]
    exact ih (k + 1) fu (L + 1) (by omega) (by omega) (by omega) (by omega)
theorem ty_347 (hn : 500 ≤ n) (hC : CZ Z c) {m : Nat} (hm : m ≤ 2) {x1 : Int32} (hL : L < 40) : Ty c b hb v L (fun g => f_L_types_l347 n Z c x1 (nI m) 1 g) := by
  refine Ty.eq (fun g => by rw [f_L_types_l347]) ?_
  refine Ty.low (m := 7) rfl (by omega) (by omega) ?_
  refine Ty.ite (fun _ => ?_) fun _ => ?_
  · exact ty_367 hC hm _ 1 n L rfl (by omega) (by omega) (by omega)
  · exact ty_367 hC hm _ 0 n L rfl (by omega) (by omega) (by omega)
theorem ty_332 (hn : 500 ≤ n) (hC : CZ Z c) {m : Nat} (hm : m ≤ 2) {x1 s0 s1 : Int32} {q : Nat} (hs : s0 = nI q) (h0 : 0 < q) (hq : q ≤ 5) (hL : L < 39) : Ty c b hb v L (fun g => f_L_types_l332 n Z c x1 (nI m) s0 s1 65 c g) := by
  have h4 := lowN_lt (x := s1) (m := q) h0
  refine Ty.eq (fun g => by rw [f_L_types_l332]) ?_
  refine Ty.low hs h0 (by omega) ?_
  exact Ty.app (w := 65 + lowN s1 q) hC (nI_add 65 _) (by omega) (by omega) (by omega) (ty_347 hn hC hm (by omega))
theorem ty_304 (hn : 500 ≤ n) (hC : CZ Z c) {m : Nat} (hm : m ≤ 2) {x1 : Int32} (hL : L < 39) : Ty c b hb v L (fun g => f_L_types_l304 n Z c x1 1 (nI m) g) := by
  refine Ty.eq (fun g => by rw [f_L_types_l304]) ?_
  refine Ty.neg i1z (Ty.low (m := 9) rfl (by omega) (by omega) ?_)
  exact Ty.ite (fun _ => ty_332 (q := 5) hn hC hm rfl (by omega) (by omega) hL) fun _ => ty_332 (q := 3) hn hC hm rfl (by omega) (by omega) hL
theorem ty_28 (hn : 500 ≤ n) (hC : CZ Z c) {m : Nat} (hm : m ≤ 2) {x1 : Int32} : ∀ (d k fu : Nat) (x4 : Int32), d = m - k → k ≤ m → d < fu → Ty c b hb v (7 * k) (fun g => f_L_types_l28 n Z fu c x1 1 (nI k) x4 (nI m) (nI k) g) := by
  intro d
  induction d with
  | zero =>
    intro k fu x4 hd hk hfu
    obtain ⟨fu, rfl⟩ : ∃ q, fu = q + 1 := ⟨fu - 1, by omega⟩
    have hkm : k = m := by omega
    subst hkm
    refine Ty.eq (fun g => by rw [f_L_types_l28]) ?_
    exact Ty.pos ((nle (by omega) (by omega)).mpr (by omega)) (ty_304 hn hC hm (by omega))
  | succ d ih =>
    intro k fu x4 hd hk hfu
    obtain ⟨fu, rfl⟩ : ∃ q, fu = q + 1 := ⟨fu - 1, by omega⟩
    have h4 := lowN_lt (x := x4 >>> ((3 : Int32) &&& 31)) (m := 4) (by omega)
    have hκ : Ty c b hb v (7 * k + 7) (fun g => (fun y0 y1 y2 y3 y4 y5 y6 y => f_L_types_l28 n Z fu y0 y1 y2 y3 y4 y5 y6 y) c x1 1 (nI k + 1) (x4 >>> ((3 : Int32) &&& 31)) (nI m) (nI k + 1) g) := by
      show Ty c b hb v (7 * k + 7) (fun g => f_L_types_l28 n Z fu c x1 1 (nI k + 1) (x4 >>> ((3 : Int32) &&& 31)) (nI m) (nI k + 1) g)
      rw [nI_1]
      exact ih (k + 1) fu _ (by omega) (by omega) (by omega)
    refine Ty.eq (fun g => by rw [f_L_types_l28]) ?_
    refine Ty.neg (ge_n (by omega) (by omega)) (Ty.neg i1z (Ty.low (m := 4) rfl (by omega) (by omega) (Ty.neg i1z ?_)))
    refine Ty.ite (fun _ => ty_92 (w := 115) hC h4 (by omega) rfl (by omega) (by omega) hκ) fun _ => ?_
    refine Ty.ite (fun _ => ty_92 (w := 112) hC h4 (by omega) rfl (by omega) (by omega) hκ) fun _ => ?_
    exact Ty.ite (fun _ => ty_92 (w := 106) hC h4 (by omega) rfl (by omega) (by omega) hκ) fun _ => ty_92 (w := 117) hC h4 (by omega) rfl (by omega) (by omega) hκ
theorem ty_types (hn : 500 ≤ n) (hC : CZ Z c) {x1 : Int32} {g : Mem} {len : Nat} {T : Nat → Nat} (hS : SI g c b hb len T v) : ∃ g', f_L_types n Z c x1 g = some (1, g') ∧ (∃ len' T', SI g' c b hb len' T' v) ∧ Fr c (c + 1462) g g' := by
  obtain ⟨g1, a1, a2, a3⟩ := tx_clear (n := n) hC hS
  have hlen : len ≤ 60 := by
    obtain ⟨P, hP, hc⟩ := hS
    exact hP.2.2.1.1
  have h3 := lowN_lt (x := x1) (m := 3) (by omega)
  have hl : Ty c b hb v 0 (fun g => f_L_types_l12 n Z c x1 1 g) := by
    refine Ty.eq (fun g => by rw [f_L_types_l12]) ?_
    refine Ty.low (m := 3) rfl (by omega) (by omega) ?_
    exact ty_28 hn hC (by omega) _ 0 n x1 rfl (by omega) (by omega)
  obtain ⟨g2, b1, b2, b3⟩ := hl g1 0 _ (Nat.le_refl _) a2
  refine ⟨g2, ?_, b2, a3.trans b3⟩
  unfold f_L_types
  rw [a1, bnd_s, if_neg (fun q => by rw [not_neg (by omega)] at q; exact q)]
  exact b1
/-! what an act leaves: the answer in w's first place says whether it was recorded -/
def Out (g' : Mem) (c w : Nat) (b : Nat → Nat) (hb : List (Nat → Nat)) (v : Vl) : Prop := (gI g' w 0 < 0 ∧ ∃ len T, SI g' c b hb len T v) ∨ (¬ gI g' w 0 < 0 ∧ ∃ b' v' len T, SI g' c b' (rec4 hb b) len T v')
theorem SI.w {g : Mem} {w k : Nat} {x : Int32} {len : Nat} {T : Nat → Nat} (h : SI g c b hb len T v) (hw : c + 1462 ≤ w) : SI (sI g w k x) c b hb len T v := h.fr (lo := w) (hi := w + 1) (Fr.rfl.sI (by omega) (by omega)) (by omega)
theorem wz (x : Int32) {g : Mem} {w : Nat} : gI (sI g w 0 x) w 0 = x := by rw [gI_sI, if_pos ⟨rfl, rfl⟩]
theorem inr01 : inr (0 : Int32) 1 := by decide
theorem c0z : (0 : Int32).toNatClampNeg = 0 := rfl
/-- asks -/
theorem ok_asks (hn : 500 ≤ n) (hC : CZ Z c) {w : Nat} (hw : c + 1462 ≤ w) (hk : zk Z w = 12) (hl : zl Z w = 1) {y : Int32} {g : Mem} {len : Nat} {T : Nat → Nat} (hS : SI g c b hb len T v) : ∃ g', f_L_asks n Z c w y g = some (1, g') ∧ Out g' c w b hb v := by
  have h60 : b 84 ≤ 60 := by
    obtain ⟨P, hP, hc⟩ := hS
    exact hP.1.1.2.2.1
  obtain ⟨g1, a1, a2, a3⟩ := rd_queryLength (n := n) (v := v) hC g hb len T hS
  obtain ⟨g2, b1, ⟨len2, T2, b2⟩, b3⟩ := ty_types (n := n) (x1 := y) hn hC a2
  have hl2 : len2 ≤ 60 := by
    obtain ⟨P, hP, hc⟩ := b2
    exact hP.2.2.1.1
  obtain ⟨g3, r, c1, c2, c3, c4⟩ := tx_fault (n := n) hn hC b2
  obtain ⟨g4, s, d1, d2, d3⟩ := tx_setQuery (n := n) hn hC c2
  have hmain : ∀ (b' : Nat → Nat) (hb' : List (Nat → Nat)) (v' : Vl), SI g4 c b' hb' len2 T2 v' → ∃ g5, SI g5 c b' hb' 0 (fun _ => 0) v' ∧ gI g5 w 0 = s ∧ f_L_asks n Z c w y g = (if r = (-6 : Int32) then (if s = (-5 : Int32) then (f_L_asks_l101 n Z c (nI (b 84)) s g5) else (if s = (-4 : Int32) then (f_L_asks_l101 n Z c (nI (b 84)) s g5) else (bnd (f_X10_answerRows n Z c g5) (fun r25 g26 => if s = r25 then (bnd (f_X10_queryLength n Z c g26) (fun r29 g30 => if r29 = nI len2 then (f_L_asks_l101 n Z c (nI (b 84)) s g30) else (some ((0 : Int32), g30)))) else (some ((0 : Int32), g26)))))) else (if r < 0 then (some ((0 : Int32), g5)) else (if nI len2 < r then (some ((0 : Int32), g5)) else (if s = (-3 : Int32) then (f_L_asks_l101 n Z c (nI (b 84)) s g5) else (some ((0 : Int32), g5)))))) := fun b' hb' v' hS4 => by
    obtain ⟨g5, e1, e2, e3⟩ := tx_clear (n := n) hC (hS4.w (k := 0) (x := s) hw)
    refine ⟨g5, e2, ?_, ?_⟩
    · rw [e3.i (by omega), wz]
    · unfold f_L_asks
      rw [a1, bnd_s, b1, bnd_s, c1, bnd_s, d1, bnd_s, grd_t hk, hl, grd_t inr01, c0z, e1, bnd_s, if_neg i1z]
  have h101 : ∀ (g5 : Mem), (0 ≤ s ∨ SI g5 c b hb 0 (fun _ => 0) v) → ∃ g6, f_L_asks_l101 n Z c (nI (b 84)) s g5 = some (1, g6) ∧ (¬ 0 ≤ s → SI g6 c b hb 0 (fun _ => 0) v) ∧ Fr c (c + 1462) g5 g6 ∧ (0 ≤ s → g6 = g5) := fun g5 h => by
    unfold f_L_asks_l101
    by_cases q : 0 ≤ s
    · exact ⟨g5, by rw [if_pos q], fun z => absurd q z, Fr.rfl, fun _ => rfl⟩
    · obtain ⟨g6, e1, e2, e3⟩ := rd_queryLength (n := n) (v := v) hC g5 hb 0 _ (h.resolve_left q)
      exact ⟨g6, by rw [if_neg q, e1, bnd_s, if_pos rfl], fun _ => e2, e3, fun z => absurd z q⟩
  rcases d3 with ⟨q1, q2, q3⟩ | ⟨q1, q2, q3⟩ | ⟨q1, v', q2, q3⟩
  · -- no query
    obtain ⟨g5, e1, e2, e3⟩ := hmain _ _ _ q3
    obtain ⟨g6, f1, f2, f3, f4⟩ := h101 g5 (Or.inr e1)
    rcases c4 with ⟨z, _⟩ | ⟨_, p, hp, rfl⟩
    · exact absurd z q1
    have hs : ¬ 0 ≤ s := by rw [q2]; decide
    refine ⟨g6, ?_, Or.inl ⟨by rw [f3.i (by omega), e2, q2]; decide, 0, _, f2 hs⟩⟩
    rw [e3, if_neg (fun z => by
      have : nI p < 0 := by rw [z]; decide
      rw [not_neg (by omega)] at this; exact this), if_neg (fun q => by rw [not_neg (by omega)] at q; exact q), if_neg (fun z => by
      have := (nlt (by omega) (by omega)).mp z
      omega), if_pos q2]
    exact f1
  · -- refused
    obtain ⟨g5, e1, e2, e3⟩ := hmain _ _ _ q3
    obtain ⟨g6, f1, f2, f3, f4⟩ := h101 g5 (Or.inr e1)
    have hr : r = -6 := by
      rcases c4 with ⟨_, z⟩ | ⟨z, _⟩
      · exact z
      · exact absurd q1 z
    have hs : ¬ 0 ≤ s := by rcases q2 with z | z <;> rw [z] <;> decide
    refine ⟨g6, ?_, Or.inl ⟨by rw [f3.i (by omega), e2]; rcases q2 with z | z <;> rw [z] <;> decide, 0, _, f2 hs⟩⟩
    rw [e3, if_pos hr]
    rcases q2 with z | z
    · rw [if_pos z]; exact f1
    · rw [if_neg (by rw [z]; decide), if_pos z]; exact f1
  · -- taken
    obtain ⟨g5, e1, e2, e3⟩ := hmain _ _ _ q3
    have hr : r = -6 := by
      rcases c4 with ⟨_, z⟩ | ⟨z, _⟩
      · exact z
      · exact absurd q1 z
    have h32 : v'.2.length ≤ 32 := by
      obtain ⟨P, hP, hc⟩ := q3
      exact (hP.2.2.2.1.good hP.1.1).2.2.2.2.1
    have hs : 0 ≤ s := by rw [q2]; exact nI_pos' (by omega)
    have hsn : ¬ s < 0 := by rw [q2, not_neg (by omega)]; exact fun z => z
    obtain ⟨g6, i1, i2, i3⟩ := rd_answerRows (n := n) (v := v') hC g5 _ 0 _ e1
    obtain ⟨g7, j1, j2, j3⟩ := rd_queryLength (n := n) (v := v') hC g6 _ 0 _ i2
    rw [setQ_84] at j1
    obtain ⟨g8, f1, f2, f3, f4⟩ := h101 g7 (Or.inl hs)
    have f4 := f4 hs
    subst f4
    refine ⟨g8, ?_, Or.inr ⟨by rw [j3.i (by omega), i3.i (by omega), e2]; exact hsn, _, v', 0, _, j2⟩⟩
    rw [e3, if_pos hr, if_neg (fun z => hsn (by rw [z]; decide)), if_neg (fun z => hsn (by rw [z]; decide)), i1, bnd_s, if_pos q2, j1, bnd_s, if_pos rfl]
    exact f1
end TYPES

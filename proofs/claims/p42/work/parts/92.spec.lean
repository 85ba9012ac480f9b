/-! THE CLASS ALONE: what each call answers, out of the state -/
/-- the class holds a state that can stand, its history, a text, the answer -/
def SI (g : Mem) (c : Nat) (b : Nat → Nat) (hb : List (Nat → Nat)) (len : Nat) (T : Nat → Nat) (v : Vl) : Prop := ∃ P, PInv b hb len T P v ∧ CInv g c b hb len T P v
theorem SI.fr {g g' : Mem} {c lo hi len : Nat} {b : Nat → Nat} {hb : List (Nat → Nat)} {T : Nat → Nat} {v : Vl} (h : SI g c b hb len T v) (hF : Fr lo hi g g') (h1 : c + 1462 ≤ lo ∨ hi ≤ c) : SI g' c b hb len T v := by
  obtain ⟨P, p, q⟩ := h
  exact ⟨P, p, q.fr hF h1⟩
/-- a call that changes nothing of it -/
def Rd (c : Nat) (b : Nat → Nat) (v : Vl) {α : Type} (f : Mem → Option (α × Mem)) (r : α) : Prop := ∀ (g : Mem) (hb : List (Nat → Nat)) (len : Nat) (T : Nat → Nat), SI g c b hb len T v → ∃ g', f g = some (r, g') ∧ SI g' c b hb len T v ∧ Fr c (c + 1462) g g'
/-- an action that is recorded -/
def Ac (c : Nat) (b : Nat → Nat) (v : Vl) (b' : Nat → Nat) (v' : Vl) (f : Mem → Option (Int32 × Mem)) (r : Int32) : Prop := ∀ (g : Mem) (hb : List (Nat → Nat)) (len : Nat) (T : Nat → Nat), SI g c b hb len T v → ∃ g', f g = some (r, g') ∧ SI g' c b' (rec4 hb b) len T v' ∧ Fr c (c + 1462) g g'
section RD
variable {c : Nat} {b : Nat → Nat} {v : Vl} {α β : Type}
theorem Rd.pure {r : α} : Rd c b v (fun g => some (r, g)) r := fun g hb len T h => ⟨g, rfl, h, Fr.rfl⟩
theorem Rd.bnd {f : Mem → Option (α × Mem)} {k : α → Mem → Option (β × Mem)} {r : α} {r' : β} (h : Rd c b v f r) (h2 : Rd c b v (k r) r') : Rd c b v (fun g => bnd (f g) k) r' := fun g hb len T hS => by
  obtain ⟨g1, a1, a2, a3⟩ := h g hb len T hS
  obtain ⟨g2, b1, b2, b3⟩ := h2 g1 hb len T a2
  exact ⟨g2, by dsimp only; rw [a1, bnd_s]; exact b1, b2, a3.trans b3⟩
theorem Rd.pos {p : Prop} [Decidable p] {f h : Mem → Option (α × Mem)} {r : α} (hp : p) (hf : Rd c b v f r) : Rd c b v (fun g => if p then f g else h g) r := fun g hb len T hS => by
  obtain ⟨g1, a⟩ := hf g hb len T hS
  exact ⟨g1, by dsimp only; rw [if_pos hp]; exact a.1, a.2⟩
theorem Rd.neg {p : Prop} [Decidable p] {f h : Mem → Option (α × Mem)} {r : α} (hp : ¬ p) (hf : Rd c b v h r) : Rd c b v (fun g => if p then f g else h g) r := fun g hb len T hS => by
  obtain ⟨g1, a⟩ := hf g hb len T hS
  exact ⟨g1, by dsimp only; rw [if_neg hp]; exact a.1, a.2⟩
theorem Rd.grd {p : Prop} [Decidable p] {f : Mem → Option (α × Mem)} {r : α} (hp : p) (hf : Rd c b v f r) : Rd c b v (fun g => grd p (f g)) r := fun g hb len T hS => by
  obtain ⟨g1, a⟩ := hf g hb len T hS
  exact ⟨g1, by dsimp only; rw [grd_t hp]; exact a.1, a.2⟩
theorem Rd.eq {f h : Mem → Option (α × Mem)} {r : α} (e : ∀ g, f g = h g) (hf : Rd c b v h r) : Rd c b v f r := fun g hb len T hS => by
  obtain ⟨g1, a⟩ := hf g hb len T hS
  exact ⟨g1, (e g).trans a.1, a.2⟩
theorem rd_same {f : Mem → Option (α × Mem)} {r : α} (h : ∀ g hb len T P, PInv b hb len T P v → CInv g c b hb len T P v → f g = some (r, g)) : Rd c b v f r := fun g hb len T hS => by
  obtain ⟨P, p, q⟩ := hS
  exact ⟨g, h g hb len T P p q, ⟨P, p, q⟩, Fr.rfl⟩
theorem CInv.sh {g g' : Mem} {lo hi len : Nat} {hb : List (Nat → Nat)} {T : Nat → Nat} {P : List Nat} (hc : CInv g c b hb len T P v) (fF : Fr lo hi g g') (h1 : c + 1455 ≤ lo ∨ (c + 55 ≤ lo ∧ hi ≤ c + 61)) (h2 : lo ≤ hi) : CInv g' c b hb len T P v := by
  obtain ⟨y1, ⟨σ, y2⟩, y3, y4, y5, y6⟩ := hc
  exact ⟨y1.fr fF (by omega), ⟨σ, y2.fr fF (by omega)⟩, y3.fr fF (by omega), y4.fr fF (by omega), y5.fr fF (by omega), y6.fr fF (by omega)⟩
end RD
section SPEC
variable {n : Nat} {Z : Zt} {c : Nat} {b : Nat → Nat} {v : Vl}
theorem rd_columns (hC : CZ Z c) {t : Nat} (ht : t < 4) : Rd c b v (f_X10_columns n Z c (nI t)) (nI (b t)) := rd_same fun g hb len T P p q => by
  unfold f_X10_columns; rw [grd_t hC.k, s_isT ht, bnd_s, if_neg i10, hC.f0, drf_s, s_width hC.st q.1 ht, bnd_s]
theorem rd_columnsO (hC : CZ Z c) {x : Int32} (hx : x < 0 ∨ nI 4 ≤ x) : Rd c b v (f_X10_columns n Z c x) (-1) := rd_same fun g hb len T P p q => by
  unfold f_X10_columns; rw [grd_t hC.k, s_isTO hx, bnd_s, if_pos rfl]
theorem rd_tags (hC : CZ Z c) : Rd c b v (f_X10_tags n Z c) (nI (mk (tagB b) 16)) := rd_same fun g hb len T P p q => by
  unfold f_X10_tags; rw [grd_t hC.k, hC.f0, drf_s, s_mask hC.st, bnd_s, q.1.m6]
theorem rd_withdrawn (hC : CZ Z c) : Rd c b v (f_X10_withdrawn n Z c) (nI (mk (goneB b) 16)) := rd_same fun g hb len T P p q => by
  unfold f_X10_withdrawn; rw [grd_t hC.k, hC.f0, drf_s, s_gone hC.st, bnd_s, q.1.m7]
/-- there is such a base row -/
def tagI (b : Nat → Nat) (x : Int32) : Prop := ∃ t, t < 16 ∧ x = nI t ∧ b (4 + 5 * t) ≠ 0
theorem tag_no {g : Mem} {x : Int32} (hC : CZ Z c) (hc : StIs g (c + 1) b) (h : ¬ tagI b x) : f_X8_hasTag n Z (c + 1) x g = some (0, g) := by
  rcases pk_ix x (n := 16) (by omega) with q | q | ⟨t, ht, rfl⟩
  · exact s_has_out hC.st (Or.inl q)
  · exact s_has_out hC.st (Or.inr q)
  · by_cases q0 : b (4 + 5 * t) = 0
    · rw [s_has hC.st hc ht, if_pos q0]
    · exact absurd ⟨t, ht, rfl, q0⟩ h
theorem tag_yes {g : Mem} {t : Nat} (hC : CZ Z c) (hc : StIs g (c + 1) b) (ht : t < 16) (q0 : b (4 + 5 * t) ≠ 0) : f_X8_hasTag n Z (c + 1) (nI t) g = some (1, g) := by rw [s_has hC.st hc ht, if_neg q0]
theorem rd_tableOf (hC : CZ Z c) {t : Nat} (ht : t < 16) (q0 : b (4 + 5 * t) ≠ 0) : Rd c b v (f_X10_tableOf n Z c (nI t)) (nI (b (4 + 5 * t) - 1)) := rd_same fun g hb len T P p q => by
  unfold f_X10_tableOf; rw [grd_t hC.k, hC.f0, drf_s, tag_yes hC q.1 ht q0, bnd_s, if_neg i10, drf_s, s_table hC.st q.1 ht, bnd_s, if_neg q0]
theorem rd_tableOfO (hC : CZ Z c) {x : Int32} (h : ¬ tagI b x) : Rd c b v (f_X10_tableOf n Z c x) (-1) := rd_same fun g hb len T P p q => by
  unfold f_X10_tableOf; rw [grd_t hC.k, hC.f0, drf_s, tag_no hC q.1 h, bnd_s, if_pos rfl]
theorem rd_cost (hC : CZ Z c) {t : Nat} (ht : t < 16) (q0 : b (4 + 5 * t) ≠ 0) : Rd c b v (f_X10_cost n Z c (nI t)) (nI (b (6 + 5 * t))) := rd_same fun g hb len T P p q => by
  unfold f_X10_cost; rw [grd_t hC.k, hC.f0, drf_s, tag_yes hC q.1 ht q0, bnd_s, if_neg i10, drf_s, s_cost hC.st q.1 ht, bnd_s, if_neg q0]
theorem rd_costO (hC : CZ Z c) {x : Int32} (h : ¬ tagI b x) : Rd c b v (f_X10_cost n Z c x) (-1) := rd_same fun g hb len T P p q => by
  unfold f_X10_cost; rw [grd_t hC.k, hC.f0, drf_s, tag_no hC q.1 h, bnd_s, if_pos rfl]
theorem rd_trust (hC : CZ Z c) {t : Nat} (ht : t < 16) (q0 : b (4 + 5 * t) ≠ 0) : Rd c b v (f_X10_trust n Z c (nI t)) (nI (b (7 + 5 * t))) := rd_same fun g hb len T P p q => by
  unfold f_X10_trust; rw [grd_t hC.k, hC.f0, drf_s, tag_yes hC q.1 ht q0, bnd_s, if_neg i10, drf_s, s_trust hC.st q.1 ht, bnd_s, if_neg q0]
theorem rd_trustO (hC : CZ Z c) {x : Int32} (h : ¬ tagI b x) : Rd c b v (f_X10_trust n Z c x) (-1) := rd_same fun g hb len T P p q => by
  unfold f_X10_trust; rw [grd_t hC.k, hC.f0, drf_s, tag_no hC q.1 h, bnd_s, if_pos rfl]
theorem rd_value (hC : CZ Z c) (hB : BOk b) (x1 x2 : Int32) : ∃ r, Rd c b v (f_X10_value n Z c x1 x2) r := by
  by_cases h : tagI b x1
  case neg =>
    exact ⟨-1, rd_same fun g hb len T P p q => by unfold f_X10_value; rw [grd_t hC.k, hC.f0, drf_s, tag_no hC q.1 h, bnd_s, if_pos rfl]⟩
  obtain ⟨t, ht, rfl, q0⟩ := h
  obtain ⟨r1, r2, r3, r4, r5, r6⟩ := hB.2.1 t ht
  have htab : b (4 + 5 * t) - 1 < 4 := by omega
  obtain ⟨w1, w2⟩ := hB.1 _ htab
  have hC2 : ∀ g, StIs g (c + 1) b → f_X10_value n Z c (nI t) x2 g = if x2 < 0 then (some ((-1 : Int32), g)) else (if x2 < nI (b (b (4 + 5 * t) - 1)) then (bnd (f_X2_digit n Z (nI (pk (b (5 + 5 * t)))) (nI (b (b (4 + 5 * t) - 1))) x2 g) (fun r24 g25 => some (r24, g25))) else (some ((-1 : Int32), g))) := fun g hc => by
    unfold f_X10_value
    rw [grd_t hC.k, hC.f0, drf_s, tag_yes hC hc ht q0, bnd_s, if_neg i10, drf_s, drf_s, s_table hC.st hc ht, bnd_s, if_neg q0, s_width hC.st hc htab, bnd_s, drf_s, s_key hC.st hc ht q0, bnd_s]
  rcases pk_ix x2 (n := b (b (4 + 5 * t) - 1)) (by omega) with q | q | ⟨j, hj, rfl⟩
  · exact ⟨-1, rd_same fun g hb len T P p z => by rw [hC2 g z.1, if_pos q]⟩
  · refine ⟨-1, rd_same fun g hb len T P p z => ?_⟩
    rw [hC2 g z.1]
    by_cases w : x2 < 0
    · rw [if_pos w]
    · rw [if_neg w, if_neg (Int32.not_lt.mpr q)]
  · exact ⟨_, rd_same fun g hb len T P p z => by rw [hC2 g z.1, if_neg (fun q => by rw [not_neg (by omega)] at q; exact q), if_pos ((nlt (by omega) (by omega)).mpr hj), key_digit (by omega) hj, bnd_s]⟩
theorem rd_queryLength (hC : CZ Z c) : Rd c b v (f_X10_queryLength n Z c) (nI (b 84)) := rd_same fun g hb len T P p q => by
  unfold f_X10_queryLength; rw [grd_t hC.k, hC.f0, drf_s, s_line hC.st, bnd_s, drf_s, l_len hC.st.2, bnd_s, q.1.2.2.2.2.1]
theorem rd_queryAt (hC : CZ Z c) (hB : BOk b) {j : Nat} (hj : j < b 84) : Rd c b v (f_X10_queryAt n Z c (nI j)) (nI (b (85 + j))) := rd_same fun g hb len T P p q => by
  have h60 := hB.2.2.1
  unfold f_X10_queryAt
  rw [grd_t hC.k, hC.f0, drf_s, s_line hC.st, bnd_s, drf_s, l_code hC.st.2 (by omega) (by omega) q.1.2.2.2.2 hj, bnd_s]
theorem rd_answerRows (hC : CZ Z c) : Rd c b v (f_X10_answerRows n Z c) (nI v.2.length) := rd_same fun g hb len T P p q => c_rows hC q.2.2.2.2.2
theorem rd_answerColumns (hC : CZ Z c) : Rd c b v (f_X10_answerColumns n Z c) (nI v.1) := rd_same fun g hb len T P p q => c_cols hC q.2.2.2.2.2
/-! a row of the answer -/
theorem rd_row {α : Type} {f : Mem → Option (α × Mem)} {r : α} {k : Nat} (hC : CZ Z c) (hk : k < v.2.length) (hin : ∀ g hb len T P q a, PInv b hb len T P v → CInv g c b hb len T P v → k < v.2.length → v.2.length ≤ 32 → f_X0_answer n Z (c + 67) g = some (some q, g) → f_X7_polynomialAt n Z q (nI k) g = some (some a, g) → PZ Z a → PIs g a (rowP v k) → c + 69 ≤ a → a + 3 ≤ c + 1455 → ∃ g1, f g = some (r, g1) ∧ Fr (c + 1455) (c + 1462) g g1) : Rd c b v f r := fun g hb len T hS => by
  obtain ⟨P, hP, hc⟩ := hS
  obtain ⟨q, q1, q2, q3, q4, q5, q6, q7⟩ := c_row (n := n) hC hc.2.2.2.2.2 (nI k)
  have h32 := (hP.2.2.2.1.good hP.1.1).2.2.2.2.1
  rcases q7 with ⟨q7, q8, q9⟩ | ⟨k', hk', e, q8, q9, a, z1, z2, z3, z4, z5⟩
  · exact absurd q7 fun z => nI_cases (j := 0) hk (by omega) z
  have hkk : k = k' := (neq (by omega) (by omega)).mp e
  subst hkk
  obtain ⟨g1, f1e, fF⟩ := hin g hb len T P q a hP hc hk h32 q4 z1 z2 z3 z4 z5
  exact ⟨g1, f1e, ⟨P, hP, hc.sh fF (by omega) (by omega)⟩, fF.mono (by omega) (by omega)⟩
theorem rd_rowO {α : Type} {f : Mem → Option (α × Mem)} {r : α} {x : Int32} (hC : CZ Z c) (hx : x < 0 ∨ nI v.2.length ≤ x) (hout : ∀ g q, f_X0_answer n Z (c + 67) g = some (some q, g) → f_X7_polynomialAt n Z q x g = some (none, g) → f_X7_hasRow n Z q x g = some (0, g) → f g = some (r, g)) : Rd c b v f r := rd_same fun g hb len T P hP hc => by
  obtain ⟨q, q1, q2, q3, q4, q5, q6, q7⟩ := c_row (n := n) hC hc.2.2.2.2.2 x
  have h32 := (hP.2.2.2.1.good hP.1.1).2.2.2.2.1
  rcases q7 with ⟨q7, q8, q9⟩ | ⟨k, hk, rfl, q8, q9, a, z1, z2, z3, z4, z5⟩
  · exact hout g q q4 q9 q8
  · exact absurd hx fun z => nI_cases (j := 0) hk (by omega) z
theorem rd_answerValue (hC : CZ Z c) {k j : Nat} (hk : k < v.2.length) (hj : j < v.1) (h4 : v.1 ≤ 4) : Rd c b v (f_X10_answerValue n Z c (nI k) (nI j)) (nI (dg v.1 (v.2.getD k (0, [])).1 j)) := rd_same fun g hb len T P hP hc => by
  obtain ⟨q, q1, q2, q3, q4, q5, q6, q7⟩ := c_row (n := n) hC hc.2.2.2.2.2 (nI k)
  have h32 := (hP.2.2.2.1.good hP.1.1).2.2.2.2.1
  rcases q7 with ⟨q7, q8, q9⟩ | ⟨k', hk', e, q8, q9, -⟩
  · exact absurd q7 fun z => nI_cases (j := 0) hk (by omega) z
  have hkk : k = k' := (neq (by omega) (by omega)).mp e
  subst hkk
  unfold f_X10_answerValue
  rw [grd_t hC.k, hC.f7, drf_s, q4, bnd_s, drf_s, q8, bnd_s, if_neg i10, if_neg (fun q => by rw [not_neg (by omega)] at q; exact q), q6, bnd_s, if_pos ((nlt (by omega) (by omega)).mpr hj), q9, bnd_s, q6, bnd_s, key_digit (by omega) hj, bnd_s]
theorem rd_answerValueE (hC : CZ Z c) (h4 : v.1 ≤ 4) (x1 x2 : Int32) : ∃ r, Rd c b v (f_X10_answerValue n Z c x1 x2) r := by
  have hno : (x1 < 0 ∨ nI v.2.length ≤ x1) → Rd c b v (f_X10_answerValue n Z c x1 x2) (-1) := fun hx => rd_rowO hC hx fun g q h1 h2 h3 => by
    unfold f_X10_answerValue
    rw [grd_t hC.k, hC.f7, drf_s, h1, bnd_s, drf_s, h3, bnd_s, if_pos rfl]
  by_cases h32 : v.2.length ≤ 32
  case neg => exact ⟨0, fun g hb len T hS => by
    obtain ⟨P, hP, hc⟩ := hS
    exact absurd (hP.2.2.2.1.good hP.1.1).2.2.2.2.1 h32⟩
  rcases pk_ix x1 (n := v.2.length) (by omega) with q | q | ⟨k, hk, rfl⟩
  · exact ⟨-1, hno (Or.inl q)⟩
  · exact ⟨-1, hno (Or.inr q)⟩
  have hC2 : ∀ g hb len T P, PInv b hb len T P v → CInv g c b hb len T P v → ∃ q, f_X7_width n Z q g = some (nI v.1, g) ∧ f_X10_answerValue n Z c (nI k) x2 g = (if x2 < 0 then (some ((-1 : Int32), g)) else (bnd (f_X7_width n Z q g) (fun r13 g14 => if x2 < r13 then (bnd (f_X7_keyAt n Z q (nI k) g14) (fun r17 g18 => bnd (f_X7_width n Z q g18) (fun r20 g21 => bnd (f_X2_digit n Z r17 r20 x2 g21) (fun r23 g24 => some (r23, g24))))) else (some ((-1 : Int32), g14))))) := fun g hb len T P hP hc => by
    obtain ⟨q, q1, q2, q3, q4, q5, q6, q7⟩ := c_row (n := n) hC hc.2.2.2.2.2 (nI k)
    refine ⟨q, q6, ?_⟩
    rcases q7 with ⟨q7, q8, q9⟩ | ⟨k', hk', e, q8, q9, -⟩
    · exact absurd q7 fun z => nI_cases (j := 0) hk (by omega) z
    unfold f_X10_answerValue; rw [grd_t hC.k, hC.f7, drf_s, q4, bnd_s, drf_s, q8, bnd_s, if_neg i10]
  rcases pk_ix x2 (n := v.1) (by omega) with q | q | ⟨j, hj, rfl⟩
  · exact ⟨-1, rd_same fun g hb len T P hP hc => by
      obtain ⟨q', w1, w2⟩ := hC2 g hb len T P hP hc
      rw [w2, if_pos q]⟩
  · refine ⟨-1, rd_same fun g hb len T P hP hc => ?_⟩
    obtain ⟨q', w1, w2⟩ := hC2 g hb len T P hP hc
    rw [w2]
    by_cases w : x2 < 0
    · rw [if_pos w]
    · rw [if_neg w, w1, bnd_s, if_neg (Int32.not_lt.mpr q)]
  · exact ⟨_, rd_answerValue hC hk hj h4⟩
theorem rd_lineage (hn : 500 ≤ n) (hC : CZ Z c) {k : Nat} (hk : k < v.2.length) : Rd c b v (f_X10_lineage n Z c (nI k)) (nI (tsN (orK (rowP v k) 0))) := rd_row (n := n) hC hk fun g hb len T P q a hP hc hk h32 h1 h2 hZ hI ha1 ha2 => ⟨g, by
  unfold f_X10_lineage; rw [grd_t hC.k, hC.f7, drf_s, h1, bnd_s, drf_s, h2, bnd_s, if_neg (by simp), drf_s, c_lin (by omega) hZ hI, bnd_s], Fr.rfl⟩
theorem rd_lineageO (hC : CZ Z c) {x : Int32} (hx : x < 0 ∨ nI v.2.length ≤ x) : Rd c b v (f_X10_lineage n Z c x) (-1) := rd_rowO (n := n) hC hx fun g q h1 h2 h3 => by
  unfold f_X10_lineage; rw [grd_t hC.k, hC.f7, drf_s, h1, bnd_s, drf_s, h2, bnd_s, if_pos rfl]
theorem rd_derivations (hn : 500 ≤ n) (hC : CZ Z c) {k : Nat} (hk : k < v.2.length) : Rd c b v (f_X10_derivations n Z c (nI k)) ((fav (goneB b) (rowP v k)).foldl sumF 0) := rd_row (n := n) hC hk fun g hb len T P q a hP hc hk h32 h1 h2 hZ hI ha1 ha2 => by
  obtain ⟨g1, e1, e2, e3⟩ := c_show (n := n) (by omega) hC hP hc hk h1 h2 hZ hI ha1 ha2
  have hl := e2.2.1
  refine ⟨g1, ?_, e3.mono (by omega) (by omega)⟩
  unfold f_X10_derivations
  rw [grd_t hC.k, e1, bnd_s, if_neg i10]
  exact c_der17 hC e2 _ 0 n 0 rfl (Nat.zero_le _) (by omega)
theorem rd_derivationsO (hC : CZ Z c) {x : Int32} (hx : x < 0 ∨ nI v.2.length ≤ x) : Rd c b v (f_X10_derivations n Z c x) (-1) := rd_rowO (n := n) hC hx fun g q h1 h2 h3 => by
  unfold f_X10_derivations; rw [grd_t hC.k, c_show_no hC h1 h2, bnd_s, if_pos rfl]
/-- the cheapest monomial of some -/
def chV (b : Nat → Nat) (ys : Pol) : Int64 := (ys.foldl (chF b) none).getD 0
theorem rd_leastCost (hn : 500 ≤ n) (hC : CZ Z c) {k : Nat} (hk : k < v.2.length) (h0 : fav (goneB b) (rowP v k) ≠ []) : Rd c b v (f_X10_leastCost n Z c (nI k)) (nI (co b (chV b (fav (goneB b) (rowP v k))))) := rd_row (n := n) hC hk fun g hb len T P q a hP hc hk h32 h1 h2 hZ hI ha1 ha2 => by
  obtain ⟨g1, e1, e2, e3⟩ := c_show (n := n) (by omega) hC hP hc hk h1 h2 hZ hI ha1 ha2
  have hl := e2.2.1
  have hS1 := hc.1.fr e3 (by omega)
  have h0 : ¬ (fav (goneB b) (rowP v k)).length = 0 := fun z => h0 (List.eq_nil_of_length_eq_zero z)
  obtain ⟨i, i1, i2, i3⟩ := c_ch (n := n) (by omega) hP.1.1 hC hS1 e2 (by omega)
  refine ⟨g1, ?_, e3.mono (by omega) (by omega)⟩
  unfold f_X10_leastCost
  rw [grd_t hC.k, e1, bnd_s, if_neg i10, hC.f8, drf_s, p_size hC.sh e2, bnd_s, if_neg (show ¬ nI _ = (0 : Int32) from neI (b := 0) (by omega) (by omega) h0), hC.f0, drf_s, drf_s, i2, bnd_s, p_mono hC.sh e2 i1, bnd_s, c_costT (by omega) hP.1.1 hC.st hS1, bnd_s]
  unfold chV
  rw [i3]; rfl
theorem rd_leastCost0 (hn : 500 ≤ n) (hC : CZ Z c) {k : Nat} (hk : k < v.2.length) (h0 : fav (goneB b) (rowP v k) = []) : Rd c b v (f_X10_leastCost n Z c (nI k)) (-6) := rd_row (n := n) hC hk fun g hb len T P q a hP hc hk h32 h1 h2 hZ hI ha1 ha2 => by
  obtain ⟨g1, e1, e2, e3⟩ := c_show (n := n) (by omega) hC hP hc hk h1 h2 hZ hI ha1 ha2
  have h0 : (fav (goneB b) (rowP v k)).length = 0 := by rw [h0]; rfl
  refine ⟨g1, ?_, e3.mono (by omega) (by omega)⟩
  unfold f_X10_leastCost
  rw [grd_t hC.k, e1, bnd_s, if_neg i10, hC.f8, drf_s, p_size hC.sh e2, bnd_s, h0, if_pos (show nI 0 = (0 : Int32) from rfl)]
theorem rd_cheapestTags (hn : 500 ≤ n) (hC : CZ Z c) {k : Nat} (hk : k < v.2.length) (h0 : fav (goneB b) (rowP v k) ≠ []) : Rd c b v (f_X10_cheapestTags n Z c (nI k)) (nI (tsN (chV b (fav (goneB b) (rowP v k))))) := rd_row (n := n) hC hk fun g hb len T P q a hP hc hk h32 h1 h2 hZ hI ha1 ha2 => by
  obtain ⟨g1, e1, e2, e3⟩ := c_show (n := n) (by omega) hC hP hc hk h1 h2 hZ hI ha1 ha2
  have hl := e2.2.1
  have hS1 := hc.1.fr e3 (by omega)
  have h0 : ¬ (fav (goneB b) (rowP v k)).length = 0 := fun z => h0 (List.eq_nil_of_length_eq_zero z)
  obtain ⟨i, i1, i2, i3⟩ := c_ch (n := n) (by omega) hP.1.1 hC hS1 e2 (by omega)
  refine ⟨g1, ?_, e3.mono (by omega) (by omega)⟩
  unfold f_X10_cheapestTags
  rw [grd_t hC.k, e1, bnd_s, if_neg i10, hC.f8, drf_s, p_size hC.sh e2, bnd_s, if_neg (show ¬ nI _ = (0 : Int32) from neI (b := 0) (by omega) (by omega) h0), drf_s, i2, bnd_s, p_mono hC.sh e2 i1, bnd_s, c_tagSet (by omega), bnd_s]
  unfold chV
  rw [i3]; rfl
theorem rd_cheapestTags0 (hn : 500 ≤ n) (hC : CZ Z c) {k : Nat} (hk : k < v.2.length) (h0 : fav (goneB b) (rowP v k) = []) : Rd c b v (f_X10_cheapestTags n Z c (nI k)) (-6) := rd_row (n := n) hC hk fun g hb len T P q a hP hc hk h32 h1 h2 hZ hI ha1 ha2 => by
  obtain ⟨g1, e1, e2, e3⟩ := c_show (n := n) (by omega) hC hP hc hk h1 h2 hZ hI ha1 ha2
  have h0 : (fav (goneB b) (rowP v k)).length = 0 := by rw [h0]; rfl
  refine ⟨g1, ?_, e3.mono (by omega) (by omega)⟩
  unfold f_X10_cheapestTags
  rw [grd_t hC.k, e1, bnd_s, if_neg i10, hC.f8, drf_s, p_size hC.sh e2, bnd_s, h0, if_pos (show nI 0 = (0 : Int32) from rfl)]
theorem rd_answerTrust (hn : 500 ≤ n) (hC : CZ Z c) {k : Nat} (hk : k < v.2.length) (h0 : fav (goneB b) (rowP v k) ≠ []) : Rd c b v (f_X10_answerTrust n Z c (nI k)) (nI ((fav (goneB b) (rowP v k)).foldl (mxF b) 0)) := rd_row (n := n) hC hk fun g hb len T P q a hP hc hk h32 h1 h2 hZ hI ha1 ha2 => by
  obtain ⟨g1, e1, e2, e3⟩ := c_show (n := n) (by omega) hC hP hc hk h1 h2 hZ hI ha1 ha2
  have hl := e2.2.1
  have hS1 := hc.1.fr e3 (by omega)
  have h0 : ¬ (fav (goneB b) (rowP v k)).length = 0 := fun z => h0 (List.eq_nil_of_length_eq_zero z)
  refine ⟨g1, ?_, e3.mono (by omega) (by omega)⟩
  unfold f_X10_answerTrust
  rw [grd_t hC.k, e1, bnd_s, if_neg i10, hC.f8, drf_s, p_size hC.sh e2, bnd_s, if_neg (show ¬ nI _ = (0 : Int32) from neI (b := 0) (by omega) (by omega) h0)]
  exact c_tr27 (by omega) hP.1.1 hC hS1 e2 _ 0 n 0 rfl (Nat.zero_le _) (by omega) (by omega)
theorem rd_answerTrust0 (hn : 500 ≤ n) (hC : CZ Z c) {k : Nat} (hk : k < v.2.length) (h0 : fav (goneB b) (rowP v k) = []) : Rd c b v (f_X10_answerTrust n Z c (nI k)) (-6) := rd_row (n := n) hC hk fun g hb len T P q a hP hc hk h32 h1 h2 hZ hI ha1 ha2 => by
  obtain ⟨g1, e1, e2, e3⟩ := c_show (n := n) (by omega) hC hP hc hk h1 h2 hZ hI ha1 ha2
  have h0 : (fav (goneB b) (rowP v k)).length = 0 := by rw [h0]; rfl
  refine ⟨g1, ?_, e3.mono (by omega) (by omega)⟩
  unfold f_X10_answerTrust
  rw [grd_t hC.k, e1, bnd_s, if_neg i10, hC.f8, drf_s, p_size hC.sh e2, bnd_s, h0, if_pos (show nI 0 = (0 : Int32) from rfl)]
theorem rd_needed (hn : 500 ≤ n) (hC : CZ Z c) {k : Nat} (hk : k < v.2.length) (h0 : fav (goneB b) (rowP v k) ≠ []) : Rd c b v (f_X10_needed n Z c (nI k)) (nI ((fav (goneB b) (rowP v k)).foldl meF (mk (tagB b) 16))) := rd_row (n := n) hC hk fun g hb len T P q a hP hc hk h32 h1 h2 hZ hI ha1 ha2 => by
  obtain ⟨g1, e1, e2, e3⟩ := c_show (n := n) (by omega) hC hP hc hk h1 h2 hZ hI ha1 ha2
  have hl := e2.2.1
  have hS1 := hc.1.fr e3 (by omega)
  have h0 : ¬ (fav (goneB b) (rowP v k)).length = 0 := fun z => h0 (List.eq_nil_of_length_eq_zero z)
  refine ⟨g1, ?_, e3.mono (by omega) (by omega)⟩
  unfold f_X10_needed
  rw [grd_t hC.k, e1, bnd_s, if_neg i10, hC.f8, drf_s, p_size hC.sh e2, bnd_s, if_neg (show ¬ nI _ = (0 : Int32) from neI (b := 0) (by omega) (by omega) h0), hC.f0, drf_s, s_mask hC.st, bnd_s, hS1.m6]
  exact c_ne33 (by omega) hC e2 _ 0 n _ rfl (Nat.zero_le _) (by omega) (bm_mk _).1
theorem rd_confidence (hn : 500 ≤ n) (hC : CZ Z c) {k : Nat} (hk : k < v.2.length) : Rd c b v (f_X10_confidence n Z c (nI k)) ((fav (goneB b) (rowP v k)).foldl (bcF b) FP.fconst0) := rd_row (n := n) hC hk fun g hb len T P q a hP hc hk h32 h1 h2 hZ hI ha1 ha2 => by
  obtain ⟨g1, e1, e2, e3⟩ := c_show (n := n) (by omega) hC hP hc hk h1 h2 hZ hI ha1 ha2
  have hl := e2.2.1
  have hS1 := hc.1.fr e3 (by omega)
  refine ⟨g1, ?_, e3.mono (by omega) (by omega)⟩
  unfold f_X10_confidence
  rw [grd_t hC.k, e1, bnd_s, if_neg i10, show (0 : Int32) = nI 0 from rfl]
  exact c_conf16 (by omega) hP.1.1 hC hS1 e2 _ 0 n FP.fconst0 rfl (Nat.zero_le _) (by omega)
theorem rd_confidenceO (hC : CZ Z c) {x : Int32} (hx : x < 0 ∨ nI v.2.length ≤ x) : Rd c b v (f_X10_confidence n Z c x) (3212836864 : UInt32) := rd_rowO (n := n) hC hx fun g q h1 h2 h3 => by
  unfold f_X10_confidence; rw [grd_t hC.k, c_show_no hC h1 h2, bnd_s, if_pos rfl]
theorem rd_worlds (hn : 500 ≤ n) (hC : CZ Z c) {k : Nat} (hk : k < v.2.length) : Rd c b v (f_X10_worlds n Z c (nI k)) (nI (cntN 65536 (wB (rowP v k) (tsN (orK (rowP v k) 0))))) := rd_row (n := n) hC hk fun g hb len T P q a hP hc hk h32 h1 h2 hZ hI ha1 ha2 => by
  have hne : ∀ j, j < (rowP v k).length → tsA (rowP v k) j ≠ 0 := fun j hj => by
    have := row_ne (j := j) hP hk (fun _ => false) (by rw [fav_no]; exact hj)
    rw [fav_no] at this; exact this
  have hl := hI.2.1
  obtain ⟨g1, s1, s2, s3⟩ := c_setTo (n := n) (g := g) (by omega) hC.ts hZ (by omega) hI
  obtain ⟨V, g2', v1, v2, v3, v4, v5⟩ := c_worlds (n := n) (by omega) hC.ts s2 hne
  have hVV : tsN (orK (rowP v k) 0) = V := by
    have e1 := (orK_sub (W := V) (xs := rowP v k) (s := 0)).mpr ⟨by rw [ts0, Nat.zero_and], v2⟩
    have e2 := v3 (tsN (orK (rowP v k) 0)) fun i hi => ((orK_sub (xs := rowP v k) (s := 0)).mp (Nat.and_self _)).2 i hi
    rw [← e1, Nat.and_comm, e2]
  refine ⟨g2', ?_, (s3.mono (by omega) (by omega)).trans (v5.mono (by omega) (by omega))⟩
  unfold f_X10_worlds
  rw [grd_t hC.k, hC.f7, drf_s, h1, bnd_s, drf_s, h2, bnd_s, if_neg (by simp), hC.f9, drf_s, drf_s, s1, bnd_s, drf_s, v4, bnd_s, hVV, cW_all]
/-! forms -/
theorem isForm_yes {f : Nat} (hf : f < 5) (g : Mem) : f_X10_isForm n Z (nI f) g = some (1, g) := by
  unfold f_X10_isForm
  rw [if_neg (fun q => by rw [not_neg (by omega)] at q; exact q), if_neg (show ¬ (5 : Int32) ≤ nI f from ge_n (N := 5) (by omega) hf)]
theorem rd_terms (hn : 500 ≤ n) (hC : CZ Z c) {k f : Nat} (hk : k < v.2.length) (hf : f < 5) : Rd c b v (f_X10_terms n Z c (nI k) (nI f)) (nI (fin f (rowP v k)).length) := rd_row (n := n) hC hk fun g hb len T P q a hP hc hk h32 h1 h2 hZ hI ha1 ha2 => by
  obtain ⟨g1, e1, e2, e3⟩ := c_form (n := n) (g := g) (by omega) hC.sh hZ (by omega) hf hI
  refine ⟨g1, ?_, e3.mono (by omega) (by omega)⟩
  unfold f_X10_terms; rw [grd_t hC.k, hC.f7, drf_s, h1, bnd_s, drf_s, h2, bnd_s, if_neg (by simp), isForm_yes hf, bnd_s, if_neg i10, hC.f8, drf_s, drf_s, e1, bnd_s, drf_s, p_size hC.sh e2, bnd_s]
theorem rd_termsO (hC : CZ Z c) {x y : Int32} (hx : x < 0 ∨ nI v.2.length ≤ x) : Rd c b v (f_X10_terms n Z c x y) (-1) := rd_rowO (n := n) hC hx fun g q h1 h2 h3 => by
  unfold f_X10_terms; rw [grd_t hC.k, hC.f7, drf_s, h1, bnd_s, drf_s, h2, bnd_s, if_pos rfl]
theorem rd_coefficient (hn : 500 ≤ n) (hC : CZ Z c) {k f j : Nat} (hk : k < v.2.length) (hf : f < 5) (hj : j < (fin f (rowP v k)).length) : Rd c b v (f_X10_coefficient n Z c (nI k) (nI f) (nI j)) ((fin f (rowP v k)).getD j (0, 0)).2 := rd_row (n := n) hC hk fun g hb len T P q a hP hc hk h32 h1 h2 hZ hI ha1 ha2 => by
  obtain ⟨g1, e1, e2, e3⟩ := c_form (n := n) (g := g) (by omega) hC.sh hZ (by omega) hf hI
  refine ⟨g1, ?_, e3.mono (by omega) (by omega)⟩
  unfold f_X10_coefficient; rw [grd_t hC.k, hC.f7, drf_s, h1, bnd_s, drf_s, h2, bnd_s, if_neg (by simp), isForm_yes hf, bnd_s, if_neg i10, hC.f8, drf_s, drf_s, e1, bnd_s, drf_s, p_has hC.sh e2 hj, bnd_s, if_neg i10, drf_s, p_fact hC.sh e2 hj, bnd_s]
theorem rd_exponent (hn : 500 ≤ n) (hC : CZ Z c) {k f j t : Nat} (hk : k < v.2.length) (hf : f < 5) (hj : j < (fin f (rowP v k)).length) (ht : t < 16) : Rd c b v (f_X10_exponent n Z c (nI k) (nI f) (nI j) (nI t)) (nI (ex ((fin f (rowP v k)).getD j (0, 0)).1 t)) := rd_row (n := n) hC hk fun g hb len T P q a hP hc hk h32 h1 h2 hZ hI ha1 ha2 => by
  obtain ⟨g1, e1, e2, e3⟩ := c_form (n := n) (g := g) (by omega) hC.sh hZ (by omega) hf hI
  refine ⟨g1, ?_, e3.mono (by omega) (by omega)⟩
  unfold f_X10_exponent; rw [grd_t hC.k, hC.f7, drf_s, h1, bnd_s, drf_s, h2, bnd_s, if_neg (by simp), isForm_yes hf, bnd_s, if_neg i10, if_neg (fun q => by rw [not_neg (by omega)] at q; exact q), if_pos (show nI t < (16 : Int32) from (nlt (b := 16) (by omega) (by omega)).mpr ht), hC.f8, drf_s, drf_s, e1, bnd_s, drf_s, p_has hC.sh e2 hj, bnd_s, if_neg i10, drf_s, p_mono hC.sh e2 hj, bnd_s, c_power ht, bnd_s]
theorem rd_lostIf (hn : 500 ≤ n) (hC : CZ Z c) {t : Nat} (ht : t < 16) (q0 : b (4 + 5 * t) ≠ 0) : Rd c b v (f_X10_lostIf n Z c (nI (2 ^ t))) (nI (cntP (goneB b) v.2) - nI (cntP (fun s => goneB b s || (2 ^ t).testBit s) v.2)) := rd_same fun g hb len T P hP hc => by
  have h16 := p2_lt ht
  have hT := bm_mk (tagB b)
  have hG := bm_mk (goneB b)
  obtain ⟨k1, k2⟩ := tags_in (t := 2 ^ t) hT.1 (by omega)
  have q2 : nI (2 ^ t) &&& nI (mk (tagB b) 16) = nI (2 ^ t) := by
    have hT1 := hT.1
    rw [and_n (by omega) (by omega)]
    congr 1
    apply Nat.eq_of_testBit_eq
    intro i
    rw [Nat.testBit_and, Nat.testBit_two_pow]
    by_cases hi : t = i
    · subst hi
      rw [hT.2 t ht]
      simp [tagB, q0]
    · simp [hi]
  have hG2 := or_bm hG h16
  obtain ⟨qa, u1, u2⟩ := c_prows (n := n) (by omega) hC hc.2.2.2.2.2 hG
  obtain ⟨qb, u3, u4⟩ := c_prows (n := n) (by omega) hC hc.2.2.2.2.2 hG2
  have : qa = qb := by rw [u1] at u3; exact Option.some.inj (Prod.mk.inj (Option.some.inj u3)).1
  subst this
  have hor : nI (mk (goneB b) 16) ||| nI (2 ^ t) = nI (mk (goneB b) 16 ||| 2 ^ t) := or_n (by have := hG.1; omega) (by omega)
  unfold f_X10_lostIf
  rw [grd_t hC.k, if_neg (fun q => by rw [not_neg (by omega)] at q; exact q), hC.f0, drf_s, s_mask hC.st, bnd_s, hc.1.m6, if_pos (k1.mpr q2), hC.f7, drf_s, u1, bnd_s, drf_s, s_gone hC.st, bnd_s, hc.1.m7, drf_s, u2, bnd_s, hor, u4, bnd_s]
end SPEC

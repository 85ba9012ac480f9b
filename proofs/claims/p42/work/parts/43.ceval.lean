/-! THE CLASS COMPUTES A QUERY -/
/-- the Evaluator: places 0..11 of the stack, 12 the spare one, 13 the answer; keys packed -/
def EvIs (g : Mem) (a : Nat) (ρ : Nat → Nat) (C : Nat → Vl) : Prop := (∀ i, i < 12 → gP g (a + 1) i = some (a + 2 + 99 * ρ i)) ∧ gP g a 1 = some (a + 2 + 99 * ρ 12) ∧ gP g a 2 = some (a + 2 + 99 * ρ 13) ∧ (∀ i, i < 14 → ρ i < 14) ∧ (∀ i j, i < 14 → j < 14 → ρ i = ρ j → i = j) ∧ ∀ i, i < 14 → ∃ π, RIs g (a + 2 + 99 * ρ i) (C i).1 π (C i).2
theorem EvIs.fr {g g' : Mem} {a lo hi : Nat} {ρ : Nat → Nat} {C : Nat → Vl} (h : EvIs g a ρ C) (hF : Fr lo hi g g') (h1 : a + 1388 ≤ lo ∨ hi ≤ a) : EvIs g' a ρ C := by
  refine ⟨fun i hi => ?_, ?_, ?_, h.2.2.2.1, h.2.2.2.2.1, fun i hi => ?_⟩
  · rw [hF.p (by omega)]; exact h.1 i hi
  · rw [hF.p (by omega)]; exact h.2.1
  · rw [hF.p (by omega)]; exact h.2.2.1
  · obtain ⟨π, hR⟩ := h.2.2.2.2.2 i hi
    have := h.2.2.2.1 i hi
    exact ⟨π, hR.fr hF (by omega)⟩
/-- the spare one was filled -/
theorem EvIs.fill {g g' : Mem} {a w : Nat} {ρ π : Nat → Nat} {C : Nat → Vl} {rows : Rws} (h : EvIs g a ρ C) (hR : RIs g' (a + 2 + 99 * ρ 12) w π rows) (hF : Fr (a + 2 + 99 * ρ 12) (a + 2 + 99 * ρ 12 + 99) g g') : EvIs g' a ρ fun i => if i = 12 then (w, rows) else C i := by
  have h12 := h.2.2.2.1 12 (by omega)
  refine ⟨fun i hi => ?_, ?_, ?_, h.2.2.2.1, h.2.2.2.2.1, fun i hi => ?_⟩
  · rw [hF.p (by omega)]; exact h.1 i hi
  · rw [hF.p (by omega)]; exact h.2.1
  · rw [hF.p (by omega)]; exact h.2.2.1
  · by_cases q : i = 12
    · subst q
      show ∃ π, RIs g' (a + 2 + 99 * ρ 12) (if 12 = 12 then (w, rows) else C 12).1 π (if 12 = 12 then (w, rows) else C 12).2
      rw [if_pos rfl]
      exact ⟨π, hR⟩
    · show ∃ π, RIs g' (a + 2 + 99 * ρ i) (if i = 12 then (w, rows) else C i).1 π (if i = 12 then (w, rows) else C i).2
      rw [if_neg q]
      obtain ⟨π2, hR2⟩ := h.2.2.2.2.2 i hi
      have h5 := h.2.2.2.1 i hi
      have h6 : ρ i ≠ ρ 12 := fun z => q (h.2.2.2.2.1 i 12 hi (by omega) z)
      exact ⟨π2, hR2.fr hF (by omega)⟩
def swp {α : Type} (j : Nat) (f : Nat → α) : Nat → α := fun i => if i = j then f 12 else if i = 12 then f j else f i
theorem c_pushSpare {n : Nat} {Z : Zt} {a t p : Nat} {ρ : Nat → Nat} {C : Nat → Vl} {g : Mem} (hZ : EZ Z a) (h : EvIs g a ρ C) (ht : gI g a 3 = nI t) (hp : p ≤ t) (hr : t - p < 12) (ht2 : t ≤ 14) : ∃ g', f_X0_pushSpare n Z a (nI p) g = some (1, g') ∧ EvIs g' a (swp (t - p) ρ) (swp (t - p) C) ∧ gI g' a 3 = nI (t - p + 1) ∧ Fr a (a + 2) g g' := by
  have h12 := h.2.2.2.1 12 (by omega)
  have hj := h.2.2.2.1 (t - p) (by omega)
  have hz := hZ.2 (ρ 12) h12
  unfold f_X0_pushSpare
  rw [grd_t hZ.1.1, ht, subN hp, if_neg (by rw [not_neg (by omega)]; exact id), if_pos (show nI (t - p) < (12 : Int32) from (nlt (b := 12) (by omega) (by omega)).mpr hr), hZ.1.2.1, drf_s, grd_t hZ.1.2.2.1, hZ.1.2.2.2, grd_t (inr_n hr (by omega))]
  simp only [clamp (show t - p < 2147483648 by omega)]
  rw [h.1 _ hr, nam_s, if_neg (by simp), drf_s, h.2.1, nam_s, drf_s, grd_t hZ.1.2.2.1, grd_t hz.1.1, hZ.1.2.2.2, grd_t (inr_n hr (by omega)), nI_1]
  refine ⟨_, rfl, ⟨fun i hi => ?_, ?_, ?_, fun i hi => ?_, fun i k hi hk => ?_, fun i hi => ?_⟩, ?_, ?_⟩
  · simp only [gP_sI, gP_sP, swp]
    by_cases q : i = t - p
    · rw [if_neg (by omega), if_pos ⟨trivial, q⟩, if_pos q]
    · rw [if_neg (by omega), if_neg (by omega), if_neg q, if_neg (by omega)]
      exact h.1 i hi
  · simp only [gP_sI, gP_sP, swp]
    rw [if_pos ⟨trivial, trivial⟩, if_neg (by omega), if_pos trivial]
  · simp only [gP_sI, gP_sP, swp]
    rw [if_neg (by omega), if_neg (by omega), if_neg (by omega), if_neg (by omega)]
    exact h.2.2.1
  · unfold swp
    split
    · exact h12
    · split
      · exact hj
      · exact h.2.2.2.1 i hi
  · have inj := h.2.2.2.2.1
    unfold swp
    intro z
    by_cases q1 : i = t - p
    · rw [if_pos q1] at z
      by_cases q2 : k = t - p
      · omega
      · rw [if_neg q2] at z
        by_cases q3 : k = 12
        · rw [if_pos q3] at z
          have := inj _ _ (by omega) (by omega) z; omega
        · rw [if_neg q3] at z
          have := inj _ _ (by omega) (by omega) z; omega
    · rw [if_neg q1] at z
      by_cases q4 : i = 12
      · rw [if_pos q4] at z
        by_cases q2 : k = t - p
        · rw [if_pos q2] at z
          have := inj _ _ (by omega) (by omega) z; omega
        · rw [if_neg q2] at z
          by_cases q3 : k = 12
          · omega
          · rw [if_neg q3] at z
            have := inj _ _ (by omega) (by omega) z; omega
      · rw [if_neg q4] at z
        by_cases q2 : k = t - p
        · rw [if_pos q2] at z
          have := inj _ _ (by omega) (by omega) z; omega
        · rw [if_neg q2] at z
          by_cases q3 : k = 12
          · rw [if_pos q3] at z
            have := inj _ _ (by omega) (by omega) z; omega
          · rw [if_neg q3] at z
            exact inj _ _ hi hk z
  · have hF : Fr a (a + 2) g (sI (sP (sP g (a + 1) (t - p) (some (a + 2 + 99 * ρ 12))) a 1 (some (a + 2 + 99 * ρ (t - p)))) a 3 (nI (t - p + 1))) := ((Fr.rfl.sP (by omega) (by omega)).sP (by omega) (by omega)).sI (by omega) (by omega)
    have key : ∀ x, x < 14 → ∃ π, RIs (sI (sP (sP g (a + 1) (t - p) (some (a + 2 + 99 * ρ 12))) a 1 (some (a + 2 + 99 * ρ (t - p)))) a 3 (nI (t - p + 1))) (a + 2 + 99 * ρ x) (C x).1 π (C x).2 := fun x hx => by
      obtain ⟨π, hR⟩ := h.2.2.2.2.2 x hx
      exact ⟨π, hR.fr hF (by omega)⟩
    by_cases q1 : i = t - p
    · simp only [swp, if_pos q1]
      exact key 12 (by omega)
    · by_cases q2 : i = 12
      · simp only [swp, if_neg q1, if_pos q2]
        exact key (t - p) (by omega)
      · simp only [swp, if_neg q1, if_neg q2]
        exact key i hi
  · simp only [gI_sI]
    rw [if_pos ⟨trivial, trivial⟩]
  · exact ((Fr.rfl.sP (by omega) (by omega)).sP (by omega) (by omega)).sI (by omega) (by omega)
/-- the values on the stack -/
def StkIs (C : Nat → Vl) : List Vl → Prop
  | [] => True
  | v :: st => C st.length = (v.1, pkR v.2) ∧ StkIs C st
theorem StkIs.cong {C C' : Nat → Vl} {st : List Vl} (h : StkIs C st) (e : ∀ i, i < st.length → C' i = C i) : StkIs C' st := by
  induction st with
  | nil => trivial
  | cons v st ih => exact ⟨(e _ (Nat.lt_succ_self _)).trans h.1, ih h.2 fun i hi => e i (Nat.lt_succ_of_lt hi)⟩
theorem StkIs.drop {C : Nat → Vl} {st : List Vl} (h : StkIs C st) (p : Nat) : StkIs C (st.drop p) := by
  induction p generalizing st with
  | zero => exact h
  | succ p ih => cases st with
    | nil => exact h
    | cons v st => exact ih h.2
theorem StkIs.get {C : Nat → Vl} {st : List Vl} (h : StkIs C st) : ∀ i, i < st.length → C (st.length - 1 - i) = ((st.getD i (0, [])).1, pkR (st.getD i (0, [])).2) := by
  induction st with
  | nil => intro i hi; exact absurd hi (Nat.not_lt_zero _)
  | cons v st ih =>
    intro i hi
    cases i with
    | zero => exact h.1
    | succ i =>
      have hi : i < st.length := Nat.lt_of_succ_lt_succ hi
      have e : (v :: st).length - 1 - (i + 1) = st.length - 1 - i := by show st.length + 1 - 1 - (i + 1) = _; omega
      rw [e]
      exact ih h.2 i hi
/-- how a node's computing ends -/
def CRes (f : Option (Int32 × Mem)) (g : Mem) (a : Nat) (C : Nat → Vl) (o : Option Vl) (st : List Vl) : Prop := match o with
  | some v => ∃ g' ρ' C', f = some (1, g') ∧ EvIs g' a ρ' C' ∧ StkIs C' (v :: st) ∧ gI g' a 3 = nI (st.length + 1) ∧ Fr a (a + 1388) g g' ∧ C' 13 = C 13
  | none => ∃ g' ρ' C', f = some (0, g') ∧ EvIs g' a ρ' C' ∧ Fr a (a + 1388) g g' ∧ C' 13 = C 13
theorem c_171 {n : Nat} {Z : Zt} {a p w : Nat} {ρ : Nat → Nat} {C : Nat → Vl} {g : Mem} {st : List Vl} {f : Option (Int32 × Mem)} {o : Option Rws} (hZ : EZ Z a) (h : EvIs g a ρ C) (hs : StkIs C st) (ht : gI g a 3 = nI st.length) (hp : p ≤ st.length) (hr : st.length - p < 12) (hl : st.length ≤ 12) (hf : SRes f g (a + 2 + 99 * ρ 12) w (o.map pkR)) :
    CRes (bnd f fun r g' => f_X0_computeNode_l171 n Z a (nI p) r g') g a C (o.map fun rows => (w, rows)) (st.drop p) := by
  have h12 := h.2.2.2.1 12 (by omega)
  cases o with
  | none =>
    obtain ⟨g', π, rows, e, h1, h2⟩ := hf
    rw [e, bnd_s]
    unfold f_X0_computeNode_l171
    rw [if_pos rfl]
    exact ⟨g', ρ, _, rfl, h.fill h1 h2, h2.mono (by omega) (by omega), by rw [if_neg (by omega)]⟩
  | some rows =>
    obtain ⟨g', π, e, h1, h2⟩ := hf
    rw [e, bnd_s]
    unfold f_X0_computeNode_l171
    have h3 := h.fill h1 h2
    have h2' := h2.mono (lo' := a) (hi' := a + 1388) (by omega) (by omega)
    obtain ⟨g2, e2, h4, h5, h6⟩ := c_pushSpare (n := n) hZ h3 ((h2.i (by omega) _).trans ht) hp hr (by omega)
    rw [if_neg (by decide), e2, bnd_s, if_neg (by decide)]
    have hdl : (st.drop p).length = st.length - p := List.length_drop
    refine ⟨g2, _, _, rfl, h4, ⟨?_, ?_⟩, ?_, h2'.trans (h6.mono (by omega) (by omega)), ?_⟩
    · simp only [swp]
      rw [hdl, if_pos rfl, if_pos trivial]
    · refine (hs.drop p).cong fun i hi => ?_
      rw [hdl] at hi
      simp only [swp]
      rw [if_neg (by omega), if_neg (by omega), if_neg (by omega)]
    · rw [hdl]; exact h5
    · simp only [swp]
      rw [if_neg (by omega), if_neg (by omega), if_neg (by omega)]
/-- a Query that was read -/
def cSec (nd : Nd) : Nat := if nd.1 = 3 then pk nd.2.2 else nd.2.2
def QIs (g : Mem) (q : Nat) (pre : List Nd) : Prop := gI g q 6 = nI pre.length ∧ pre.length ≤ 60 ∧ ∀ k, k < pre.length → gI g (q + 1) k = nI (pre.getD k (0, 0, 0)).1 ∧ gI g (q + 2) k = nI (pre.getD k (0, 0, 0)).2.1 ∧ gI g (q + 3) k = nI (cSec (pre.getD k (0, 0, 0)))
theorem QIs.fr {g g' : Mem} {q lo hi : Nat} {pre : List Nd} (h : QIs g q pre) (hF : Fr lo hi g g') (h1 : q + 4 ≤ lo ∨ hi ≤ q) : QIs g' q pre := by
  refine ⟨by rw [hF.i (by omega)]; exact h.1, h.2.1, fun k hk => ?_⟩
  rw [hF.i (by omega), hF.i (by omega), hF.i (by omega)]
  exact h.2.2 k hk
theorem q_has {n : Nat} {Z : Zt} {q k : Nat} {g : Mem} {pre : List Nd} (hZ : QZ Z q) (h : QIs g q pre) (hk : k < pre.length) : f_X6_hasNode n Z q (nI k) g = some (1, g) := by
  have := h.2.1
  unfold f_X6_hasNode
  rw [grd_t hZ.k, if_neg (by rw [not_neg (by omega)]; exact id), h.1, if_neg (fun z => by have := (nle (by omega) (by omega)).mp z; omega), if_neg (show ¬ (60 : Int32) ≤ nI k from fun z => by have := (nle (a := 60) (by omega) (by omega)).mp z; omega)]
theorem q_kind {n : Nat} {Z : Zt} {q k : Nat} {g : Mem} {pre : List Nd} (hZ : QZ Z q) (h : QIs g q pre) (hk : k < pre.length) : f_X6_kindAt n Z q (nI k) g = some (nI (pre.getD k (0, 0, 0)).1, g) := by
  have := h.2.1
  unfold f_X6_kindAt
  rw [grd_t hZ.k, q_has hZ h hk, bnd_s, if_neg (by decide), hZ.f0, drf_s, grd_t hZ.k0, hZ.l0, grd_t (inr_n (by omega) (by omega)), clamp (by omega), (h.2.2 k hk).1]
theorem q_first {n : Nat} {Z : Zt} {q k : Nat} {g : Mem} {pre : List Nd} (hZ : QZ Z q) (h : QIs g q pre) (hk : k < pre.length) : f_X6_firstAt n Z q (nI k) g = some (nI (pre.getD k (0, 0, 0)).2.1, g) := by
  have := h.2.1
  unfold f_X6_firstAt
  rw [grd_t hZ.k, q_has hZ h hk, bnd_s, if_neg (by decide), hZ.f1, drf_s, grd_t hZ.k1, hZ.l1, grd_t (inr_n (by omega) (by omega)), clamp (by omega), (h.2.2 k hk).2.1]
theorem q_second {n : Nat} {Z : Zt} {q k : Nat} {g : Mem} {pre : List Nd} (hZ : QZ Z q) (h : QIs g q pre) (hk : k < pre.length) : f_X6_secondAt n Z q (nI k) g = some (nI (cSec (pre.getD k (0, 0, 0))), g) := by
  have := h.2.1
  unfold f_X6_secondAt
  rw [grd_t hZ.k, q_has hZ h hk, bnd_s, if_neg (by decide), hZ.f2, drf_s, grd_t hZ.k2, hZ.l2, grd_t (inr_n (by omega) (by omega)), clamp (by omega), (h.2.2 k hk).2.2]
theorem NOk.k {nd : Nd} (h : NOk nd) : nd.1 ≤ 5 := by rcases h with h | h | h | h | h | h <;> omega
theorem q_parts {n : Nat} {Z : Zt} {k : Nat} {g : Mem} (hk : k ≤ 5) : f_X6_partsOf n Z (nI k) g = some (nI (ar k), g) := by
  unfold f_X6_partsOf ar
  have e0 : (nI k = 0) ↔ k = 0 := neq (b := 0) (by omega) (by omega)
  have e4 : (nI k = 4) ↔ k = 4 := neq (b := 4) (by omega) (by omega)
  have e5 : (nI k = 5) ↔ k = 5 := neq (b := 5) (by omega) (by omega)
  by_cases h0 : k = 0
  · rw [if_pos (e0.mpr h0), if_pos h0]; rfl
  · rw [if_neg (fun z => h0 (e0.mp z)), if_neg h0]
    by_cases h4 : k = 4
    · rw [if_pos (e4.mpr h4), if_pos (Or.inl h4)]; rfl
    · rw [if_neg (fun z => h4 (e4.mp z))]
      by_cases h5 : k = 5
      · rw [if_pos (e5.mpr h5), if_pos (Or.inr h5)]; rfl
      · rw [if_neg (fun z => h5 (e5.mp z)), if_neg (by omega)]; rfl
theorem c_waiting {n : Nat} {Z : Zt} {a t d : Nat} {ρ : Nat → Nat} {C : Nat → Vl} {g : Mem} (hZ : EZ Z a) (h : EvIs g a ρ C) (ht : gI g a 3 = nI t) (hd1 : 1 ≤ d) (hd2 : d ≤ 2) (hr : t ≤ 12) : f_X0_waiting n Z a (nI d) g = some (if d ≤ t then some (a + 2 + 99 * ρ (t - d)) else none, g) := by
  unfold f_X0_waiting
  rw [grd_t hZ.1.1, ht]
  by_cases q : d ≤ t
  · rw [if_pos q, subN q, if_neg (by rw [not_neg (by omega)]; exact id), if_neg (fun z => by have := (nle (a := 12) (by omega) (by omega)).mp z; omega), hZ.1.2.1, drf_s, grd_t hZ.1.2.2.1, hZ.1.2.2.2, grd_t (inr_n (by omega) (by omega)), clamp (by omega), h.1 _ (by omega), nam_s]
  · have hneg : nI t - nI d < 0 := by
      have H : ∀ i j : Fin 3, i.1 < j.1 → nI i.1 - nI j.1 < 0 := by decide +kernel
      exact H ⟨t, by omega⟩ ⟨d, by omega⟩ (by show t < d; omega)
    rw [if_neg q, if_pos hneg]
/-- computeNode -/
theorem c_node {n : Nat} {Z : Zt} {a q s k : Nat} {ρ : Nat → Nat} {C : Nat → Vl} {g : Mem} {b : Nat → Nat} {pre : List Nd} {st : List Vl} {nd : Nd} (hn : 40 ≤ n) (hZ : EZ Z a) (hZq : QZ Z q) (hZs : SZ Z s) (hb : BOk b) (hdq : q + 6 ≤ a ∨ a + 1388 ≤ q) (hds : s + 8 ≤ a ∨ a + 1388 ≤ s) (hQ : QIs g q pre) (hS : StIs g s b) (h : EvIs g a ρ C) (hs : StkIs C st) (ht : gI g a 3 = nI st.length) (hl : st.length ≤ 12) (hk : k < pre.length) (hnd : pre.getD k (0, 0, 0) = nd) (hN : NOk nd) (har : ar nd.1 ≤ st.length) (hr : st.length - ar nd.1 < 12) (hF : NFit nd (st.getD 0 (0, [])).1 (st.getD 1 (0, [])).1) (hv : ∀ v ∈ st, VOk v) :
    CRes (f_X0_computeNode n Z a q (nI k) s g) g a C (hV b nd (st.getD 0 (0, [])) (st.getD 1 (0, []))) (st.drop (ar nd.1)) := by
  have h12 := h.2.2.2.1 12 (by omega)
  have hRZ12 := hZ.2 _ h12
  obtain ⟨π12, hR12⟩ := h.2.2.2.2.2 12 (by omega)
  have vok : ∀ i, i < st.length → VOk (st.getD i (0, [])) := fun i hi => by
    refine hv _ ?_
    rw [List.getD_eq_getElem?_getD, List.getElem?_eq_getElem hi]
    exact List.getElem_mem hi
  have slot : ∀ i, i < st.length → ρ (st.length - 1 - i) < 14 ∧ ρ (st.length - 1 - i) ≠ ρ 12 ∧ ∃ ψ, RIs g (a + 2 + 99 * ρ (st.length - 1 - i)) (st.getD i (0, [])).1 ψ (pkR (st.getD i (0, [])).2) := fun i hi => by
    obtain ⟨ψ, hR⟩ := h.2.2.2.2.2 (st.length - 1 - i) (by omega)
    rw [hs.get i hi] at hR
    exact ⟨h.2.2.2.1 _ (by omega), fun z => by have := h.2.2.2.2.1 _ _ (by omega) (by omega) z; omega, ψ, hR⟩
  have hkb := opL_KB (b := b) (f := st.getD 0 (0, [])) (s := st.getD 1 (0, [])) hb hN hF (fun z => vok 0 (by unfold ar at har; rw [if_neg z] at har; split at har <;> omega)) (fun z => vok 1 (by unfold ar at har; rw [if_neg (by omega), if_pos z] at har; omega))
  have hkb4 : KB 10000 (opL b nd (st.getD 0 (0, [])) (st.getD 1 (0, []))) := fun x hx => by
    have h1 := hkb.1 x hx
    have h2 : 10 ^ opW b nd (st.getD 0 (0, [])).1 (st.getD 1 (0, [])).1 ≤ 10 ^ 4 := Nat.pow_le_pow_right (by omega) hkb.2.2
    omega
  have fin : ∀ f, SRes f g (a + 2 + 99 * ρ 12) (opW b nd (st.getD 0 (0, [])).1 (st.getD 1 (0, [])).1) (rAddL [] (pkR (opL b nd (st.getD 0 (0, [])) (st.getD 1 (0, []))))) → CRes (bnd f fun r g' => f_X0_computeNode_l171 n Z a (nI (ar nd.1)) r g') g a C (hV b nd (st.getD 0 (0, [])) (st.getD 1 (0, []))) (st.drop (ar nd.1)) := fun f hf => c_171 hZ h hs ht har hr hl (hf.dec hkb4)
  unfold f_X0_computeNode
  rw [grd_t hZ.1.1, q_kind hZq hQ hk, bnd_s, hnd, q_parts hN.k, bnd_s]
  have w1 := c_waiting (n := n) (d := 1) hZ h ht (by omega) (by omega) hl
  have w2 := c_waiting (n := n) (d := 2) hZ h ht (by omega) (by omega) hl
  rw [show f_X0_waiting n Z a (1 : Int32) g = _ from w1, bnd_s, show f_X0_waiting n Z a (2 : Int32) g = _ from w2, bnd_s]
  have z0 : ∀ x, x ≤ 5 → ((nI x = 0) ↔ x = 0) := fun x hx => neq (b := 0) (by omega) (by omega)
  have z1 : ∀ x, x ≤ 5 → ((nI x = 1) ↔ x = 1) := fun x hx => neq (b := 1) (by omega) (by omega)
  have z2 : ∀ x, x ≤ 5 → ((nI x = 2) ↔ x = 2) := fun x hx => neq (b := 2) (by omega) (by omega)
  have z3 : ∀ x, x ≤ 5 → ((nI x = 3) ↔ x = 3) := fun x hx => neq (b := 3) (by omega) (by omega)
  have z4 : ∀ x, x ≤ 5 → ((nI x = 4) ↔ x = 4) := fun x hx => neq (b := 4) (by omega) (by omega)
  have l0 : ∀ x, x ≤ 5 → ((nI x ≤ 0) ↔ x ≤ 0) := fun x hx => nle (b := 0) (by omega) (by omega)
  have l1 : ∀ x, x ≤ 5 → ((nI x ≤ 1) ↔ x ≤ 1) := fun x hx => nle (b := 1) (by omega) (by omega)
  have ha2 := (own_ar nd).2.2
  have step51 : ∀ u v, f_X0_computeNode_l51 n Z a q (nI k) s (nI nd.1) (nI (ar nd.1)) u v g = f_X0_computeNode_l51 n Z a q (nI k) s (nI nd.1) (nI (ar nd.1)) u v g := fun _ _ => rfl
  rcases hN with c | c | c | c | c | c
  · -- a table
    have hk0 : ar nd.1 = 0 := by unfold ar; rw [if_pos c.1]
    rw [if_pos ((l0 _ (by omega)).mpr (by omega))]
    unfold f_X0_computeNode_l38
    rw [if_pos ((l1 _ (by omega)).mpr (by omega))]
    unfold f_X0_computeNode_l51
    rw [q_first hZq hQ hk, bnd_s, q_second hZq hQ hk, bnd_s, hnd, if_pos ((z0 _ (by omega)).mpr c.1)]
    refine fin _ ?_
    have hS := fill_table (t := nd.2.1) hn hZ.1.1 hRZ12 hZs hb (by omega) (by omega) c.2.1 h.2.1 hR12 hS
    unfold opW opL
    rw [if_pos c.1, if_pos c.1]
    exact hS
  · -- a digit
    have hk1 : ar nd.1 = 1 := by unfold ar; rw [if_neg (by omega), if_neg (by omega)]
    obtain ⟨r1, r2, ψ, hR⟩ := slot 0 (by omega)
    rw [if_neg (fun z => by have := (l0 _ (by omega)).mp z; omega), if_pos (show 1 ≤ st.length by omega), if_neg (by simp)]
    unfold f_X0_computeNode_l38
    rw [if_pos ((l1 _ (by omega)).mpr (by omega))]
    unfold f_X0_computeNode_l51
    rw [q_first hZq hQ hk, bnd_s, q_second hZq hQ hk, bnd_s, hnd, if_neg (fun z => by have := (z0 _ (by omega)).mp z; omega), if_pos ((z1 _ (by omega)).mpr c.1)]
    unfold f_X0_computeNode_l112
    rw [drf_s]
    refine fin _ ?_
    have hc : cSec nd = nd.2.2 := by unfold cSec; rw [if_neg (by omega)]
    rw [hc]
    have hS := fill_select (kind := nd.1) (ca := nd.2.1) (cb := nd.2.2) hn hZ.1.1 hRZ12 (hZ.2 _ r1) (by omega) (by omega) (vok 0 (by omega)).2.1 (hF.1 c.1) (Or.inl ⟨c.1, c.2.2⟩) h.2.1 hR12 hR
    unfold opW opL
    simp only [if_neg (show ¬ nd.1 = 0 by omega), if_neg (show ¬ nd.1 = 3 by omega), if_neg (show ¬ nd.1 = 4 by omega), if_neg (show ¬ nd.1 = 5 by omega)]
    exact hS
  · -- two columns
    have hk1 : ar nd.1 = 1 := by unfold ar; rw [if_neg (by omega), if_neg (by omega)]
    obtain ⟨r1, r2, ψ, hR⟩ := slot 0 (by omega)
    rw [if_neg (fun z => by have := (l0 _ (by omega)).mp z; omega), if_pos (show 1 ≤ st.length by omega), if_neg (by simp)]
    unfold f_X0_computeNode_l38
    rw [if_pos ((l1 _ (by omega)).mpr (by omega))]
    unfold f_X0_computeNode_l51
    rw [q_first hZq hQ hk, bnd_s, q_second hZq hQ hk, bnd_s, hnd, if_neg (fun z => by have := (z0 _ (by omega)).mp z; omega), if_neg (fun z => by have := (z1 _ (by omega)).mp z; omega), if_pos ((z2 _ (by omega)).mpr c.1)]
    unfold f_X0_computeNode_l112
    rw [drf_s]
    refine fin _ ?_
    have hc : cSec nd = nd.2.2 := by unfold cSec; rw [if_neg (by omega)]
    rw [hc]
    have hS := fill_select (kind := nd.1) (ca := nd.2.1) (cb := nd.2.2) hn hZ.1.1 hRZ12 (hZ.2 _ r1) (by omega) (by omega) (vok 0 (by omega)).2.1 (hF.2.1 c.1).1 (Or.inr ⟨c.1, (hF.2.1 c.1).2⟩) h.2.1 hR12 hR
    unfold opW opL
    simp only [if_neg (show ¬ nd.1 = 0 by omega), if_neg (show ¬ nd.1 = 3 by omega), if_neg (show ¬ nd.1 = 4 by omega), if_neg (show ¬ nd.1 = 5 by omega)]
    exact hS
  · -- columns
    have hk1 : ar nd.1 = 1 := by unfold ar; rw [if_neg (by omega), if_neg (by omega)]
    obtain ⟨r1, r2, ψ, hR⟩ := slot 0 (by omega)
    rw [if_neg (fun z => by have := (l0 _ (by omega)).mp z; omega), if_pos (show 1 ≤ st.length by omega), if_neg (by simp)]
    unfold f_X0_computeNode_l38
    rw [if_pos ((l1 _ (by omega)).mpr (by omega))]
    unfold f_X0_computeNode_l51
    rw [q_first hZq hQ hk, bnd_s, q_second hZq hQ hk, bnd_s, hnd, if_neg (fun z => by have := (z0 _ (by omega)).mp z; omega), if_neg (fun z => by have := (z1 _ (by omega)).mp z; omega), if_neg (fun z => by have := (z2 _ (by omega)).mp z; omega), if_pos ((z3 _ (by omega)).mpr c.1), drf_s]
    refine fin _ ?_
    have hc : cSec nd = pk nd.2.2 := by unfold cSec; rw [if_pos c.1]
    rw [hc]
    have hS := fill_project (cnt := nd.2.1) (nd := nd.2.2) hn hZ.1.1 hRZ12 (hZ.2 _ r1) (by omega) (by omega) (vok 0 (by omega)).2.1 c.2.2.1 (hF.2.2.1 c.1) h.2.1 hR12 hR
    unfold opW opL
    simp only [if_neg (show ¬ nd.1 = 0 by omega), if_pos c.1]
    exact hS
  · -- a join
    have hk1 : ar nd.1 = 2 := by unfold ar; rw [if_neg (by omega), if_pos (Or.inl c.1)]
    obtain ⟨r1, r2, ψ, hR⟩ := slot 0 (by omega)
    obtain ⟨r3, r4, φ, hT⟩ := slot 1 (by omega)
    have e2 : st.length - 1 - 1 = st.length - 2 := by omega
    rw [e2] at r3 r4 hT
    rw [if_neg (fun z => by have := (l0 _ (by omega)).mp z; omega), if_pos (show 1 ≤ st.length by omega), if_neg (by simp)]
    unfold f_X0_computeNode_l38
    rw [if_neg (fun z => by have := (l1 _ (by omega)).mp z; omega), if_pos (show 2 ≤ st.length by omega), if_neg (by simp)]
    unfold f_X0_computeNode_l51
    rw [q_first hZq hQ hk, bnd_s, q_second hZq hQ hk, bnd_s, hnd, if_neg (fun z => by have := (z0 _ (by omega)).mp z; omega), if_neg (fun z => by have := (z1 _ (by omega)).mp z; omega), if_neg (fun z => by have := (z2 _ (by omega)).mp z; omega), if_neg (fun z => by have := (z3 _ (by omega)).mp z; omega), if_pos ((z4 _ (by omega)).mpr c.1), drf_s, drf_s]
    refine fin _ ?_
    have hc : cSec nd = nd.2.2 := by unfold cSec; rw [if_neg (by omega)]
    rw [hc]
    have hf4 := hF.2.2.2.1 c.1
    have hS := fill_join (ca := nd.2.1) (cb := nd.2.2) hn hZ.1.1 hRZ12 (hZ.2 _ r1) (hZ.2 _ r3) (by omega) (by omega) (by omega) hf4.2.2 hf4.1 hf4.2.1 (vok 0 (by omega)).2.2.kok (vok 1 (by omega)).2.2.kok h.2.1 hR12 hR hT
    unfold opW opL
    simp only [if_neg (show ¬ nd.1 = 0 by omega), if_neg (show ¬ nd.1 = 3 by omega), if_pos c.1]
    exact hS
  · -- a union
    have hk1 : ar nd.1 = 2 := by unfold ar; rw [if_neg (by omega), if_pos (Or.inr c.1)]
    obtain ⟨r1, r2, ψ, hR⟩ := slot 0 (by omega)
    obtain ⟨r3, r4, φ, hT⟩ := slot 1 (by omega)
    have e2 : st.length - 1 - 1 = st.length - 2 := by omega
    rw [e2] at r3 r4 hT
    rw [if_neg (fun z => by have := (l0 _ (by omega)).mp z; omega), if_pos (show 1 ≤ st.length by omega), if_neg (by simp)]
    unfold f_X0_computeNode_l38
    rw [if_neg (fun z => by have := (l1 _ (by omega)).mp z; omega), if_pos (show 2 ≤ st.length by omega), if_neg (by simp)]
    unfold f_X0_computeNode_l51
    rw [q_first hZq hQ hk, bnd_s, q_second hZq hQ hk, bnd_s, hnd, if_neg (fun z => by have := (z0 _ (by omega)).mp z; omega), if_neg (fun z => by have := (z1 _ (by omega)).mp z; omega), if_neg (fun z => by have := (z2 _ (by omega)).mp z; omega), if_neg (fun z => by have := (z3 _ (by omega)).mp z; omega), if_neg (fun z => by have := (z4 _ (by omega)).mp z; omega), drf_s, drf_s]
    refine fin _ ?_
    have hS := fill_union (S := (st.getD 0 (0, [])).2) (T := (st.getD 1 (0, [])).2) hn hZ.1.1 hRZ12 (hZ.2 _ r1) (hZ.2 _ r3) (by omega) (by omega) (by omega) h.2.1 hR12 hR hT
    unfold opW opL
    simp only [if_neg (show ¬ nd.1 = 0 by omega), if_neg (show ¬ nd.1 = 3 by omega), if_neg (show ¬ nd.1 = 4 by omega), if_pos c.1]
    exact hS

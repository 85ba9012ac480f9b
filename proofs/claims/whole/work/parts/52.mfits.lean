/-! fits (the reference) -/
def pF (m b j : Nat) : Prop := (b = m ∧ j = 24) ∨ b = m + 12
theorem b4_dig' {cnt nd k : Nat} (hd : ∀ i, i < cnt → dg cnt nd i < 4) (hk : k < cnt) : b4 cnt nd cnt / 2 ^ (2 * k) % 4 = dg cnt nd (cnt - 1 - k) := by
  have := b4_dig hd (i := cnt - 1 - k) k (by omega)
  rw [show cnt - 1 - k + 1 + k = cnt by omega] at this
  exact this
def MxP (r k cnt nd : Nat) : Prop := r = 0 ∨ ∃ j, j < k ∧ r = dg cnt nd (cnt - 1 - j)
theorem great_l4 {n : Nat} {Z : Zt} {cnt nd : Nat} {g : Mem} (hc : cnt ≤ 4) (hd : ∀ i, i < cnt → dg cnt nd i < 4) : ∀ (d k fu r : Nat), d = cnt - k → k ≤ cnt → d < fu → r < 4 → (∀ j, j < k → dg cnt nd (cnt - 1 - j) ≤ r) → MxP r k cnt nd →
    ∃ r', f_X11_greatest_l4 n Z fu (nI cnt) (nI (b4 cnt nd cnt)) (nI r) (nI k) g = some (nI r', g) ∧ r' < 4 ∧ (∀ j, j < cnt → dg cnt nd (cnt - 1 - j) ≤ r') ∧ MxP r' cnt cnt nd := by
  intro d
  induction d with
  | zero =>
    intro k fu r hdk hk hfu hr h1 h2
    obtain ⟨fu, rfl⟩ : ∃ q, fu = q + 1 := ⟨fu - 1, by omega⟩
    have hke : k = cnt := by omega
    subst hke
    rw [f_X11_greatest_l4, if_pos ((nle (by omega) (by omega)).mpr (Nat.le_refl _))]
    exact ⟨r, rfl, hr, h1, h2⟩
  | succ d ih =>
    intro k fu r hdk hk hfu hr h1 h2
    obtain ⟨fu, rfl⟩ : ∃ q, fu = q + 1 := ⟨fu - 1, by omega⟩
    have hb := b4_lt hd cnt (Nat.le_refl _)
    have hb' : b4 cnt nd cnt < 256 := Nat.lt_of_lt_of_le hb (Nat.pow_le_pow_right (n := 4) (by omega) hc)
    have e1 : ((2 : Int32) * nI k) = nI (2 * k) := by rw [← mIJ]; rfl
    have hdd := hd (cnt - 1 - k) (by omega)
    have ev : (nI (b4 cnt nd cnt) >>> (((2 : Int32) * nI k) &&& 31)) &&& (3 : Int32) = nI (dg cnt nd (cnt - 1 - k)) := by
      rw [e1, shr_n (by omega) (by omega), and3 (by have := Nat.div_le_self (b4 cnt nd cnt) (2 ^ (2 * k)); omega), b4_dig' hd (by omega)]
    rw [f_X11_greatest_l4, if_neg (fun q => by have := (nle (by omega) (by omega)).mp q; omega), ev]
    by_cases hq : dg cnt nd (cnt - 1 - k) ≤ r
    · rw [if_pos ((nle (by omega) (by omega)).mpr hq), nI_1]
      refine ih (k + 1) fu r (by omega) (by omega) (by omega) hr (fun j hj => ?_) ?_
      · by_cases hjk : j = k
        · subst hjk; exact hq
        · exact h1 j (by omega)
      · rcases h2 with h | ⟨j, h, h'⟩
        · exact Or.inl h
        · exact Or.inr ⟨j, by omega, h'⟩
    · rw [if_neg (fun z => hq ((nle (by omega) (by omega)).mp z)), nI_1]
      refine ih (k + 1) fu _ (by omega) (by omega) (by omega) hdd (fun j hj => ?_) (Or.inr ⟨k, by omega, rfl⟩)
      by_cases hjk : j = k
      · subst hjk; exact Nat.le_refl _
      · have := h1 j (by omega); omega
theorem m_great {n : Nat} {Z : Zt} {cnt nd : Nat} {g : Mem} (hn : 40 ≤ n) (hc : cnt ≤ 4) (hd : ∀ i, i < cnt → dg cnt nd i < 4) : ∃ r, f_X11_greatest n Z (nI cnt) (nI (b4 cnt nd cnt)) g = some (nI r, g) ∧ r < 4 ∧ ∀ f, 1 ≤ f → (r < f ↔ ∀ i, i < cnt → dg cnt nd i < f) := by
  obtain ⟨r, e, h1, h2, h3⟩ := great_l4 (n := n) (Z := Z) (g := g) hc hd cnt 0 n 0 (by omega) (by omega) (by omega) (by omega) (fun j hj => by omega) (Or.inl rfl)
  refine ⟨r, e, h1, fun f hf => ⟨fun h i hi => ?_, fun h => ?_⟩⟩
  · have := h2 (cnt - 1 - i) (by omega)
    rw [show cnt - 1 - (cnt - 1 - i) = i by omega] at this
    omega
  · rcases h3 with h' | ⟨j, h', h''⟩
    · omega
    · have := h (cnt - 1 - j) (by omega); omega
/-- one step: whether it fits, and the widths then -/
theorem m_fitsStep {n : Nat} {Z : Zt} {m i : Nat} {b : Nat → Nat} {nd : Nd} {st : List Nat} {g : Mem} (hn : 40 ≤ n) (hZ : MZ Z m) (hb : BOk b) (hB : BIs g m b) (hi : i < 60) (hT : StepAt g m i nd) (hk : NOk nd) (hl : st.length ≤ 12) (ha : ar nd.1 ≤ st.length) (hst : ∀ x ∈ st, 1 ≤ x ∧ x ≤ 4) (hS : WsIs g (m + 12) st) (h24 : gI g m 24 = nI st.length) :
    ∃ g', Ch (pF m) g g' ∧ match hW b nd (st.getD (ar nd.1 - 1) 0) (st.getD 0 0) with
      | some w => f_X11_fitsStep n Z m (nI i) g = some (1, g') ∧ WsIs g' (m + 12) (w :: st.drop (ar nd.1)) ∧ gI g' m 24 = nI (st.length - ar nd.1 + 1)
      | none => f_X11_fitsStep n Z m (nI i) g = some (0, g') := by
  obtain ⟨t1, t2, t3⟩ := hT
  have hs4 := ws_le hst 0
  have e0 : f_X11_fitsStep n Z m (nI i) g = f_X11_fitsStep_l22 n Z m (nI i) (nI (st.getD 0 0)) g := by
    unfold f_X11_fitsStep
    rw [grd_t hZ.k, h24]
    by_cases h0 : st.length ≤ 0
    · rw [if_pos (show nI st.length ≤ (0 : Int32) from (nle (b := 0) (by omega) (by omega)).mpr h0), getD_big h0]; rfl
    · have hat := hS.at (i := 0) (by omega)
      have e2 : nI st.length - (1 : Int32) = nI (st.length - 1) := subN (a := st.length) (b := 1) (by omega)
      rw [show st.length - 1 - 0 = st.length - 1 by omega] at hat
      rw [if_neg (show ¬ nI st.length ≤ (0 : Int32) from fun z => h0 ((nle (b := 0) (by omega) (by omega)).mp z))]
      simp (disch := omega) only [hZ.f18, hZ.k18, hZ.l18, drf_s, grd_t, grd_true, e2, inr_eq, clamp, hat]
  rw [e0]
  obtain ⟨kd, a, c⟩ := nd
  have hk' : kd = 0 ∧ a < 4 ∧ c = 0 ∨ kd = 1 ∧ a < 4 ∧ c < 10 ∨ kd = 2 ∧ a < 4 ∧ c < 4 ∨ kd = 3 ∧ 1 ≤ a ∧ a ≤ 4 ∧ c < 10 ^ a ∧ (∀ i, i < a → dg a c i < 4) ∨ kd = 4 ∧ a < 4 ∧ c < 4 ∨ kd = 5 ∧ a = 0 ∧ c = 0 := hk
  have t2 : gI g (m + 6) i = nI a := t2
  have t1 : gI g (m + 5) i = nI (kc kd) := t1
  have t1' : gI g (m + 5) (nI i).toNatClampNeg = nI (kc kd) := by rw [clamp (by omega)]; exact t1
  rcases hk' with ⟨q, q1, q2⟩ | ⟨q, q1, q2⟩ | ⟨q, q1, q2⟩ | ⟨q, q1, q2, q3, q4⟩ | ⟨q, q1, q2⟩ | ⟨q, q1, q2⟩ <;> subst q
  · have hba := hB a (by omega)
    have hw : hW b (0, a, c) (st.getD (ar 0 - 1) 0) (st.getD 0 0) = some (b a) := hW_fit (nd := (0, a, c)) ⟨fun z => nek z rfl, fun z => nek z rfl, fun z => nek z rfl, fun z => nek z rfl, fun z => nek z rfl⟩
    have hF : Ch (fun b j => (b = m ∧ j = 24) ∨ (b = m + 12 ∧ j = st.length)) g (sI (sI g (m + 12) st.length (nI (b a))) m 24 (nI (st.length + 1))) := (Ch.rfl.sI (Or.inr ⟨rfl, rfl⟩)).sI (Or.inl ⟨rfl, rfl⟩)
    refine ⟨sI (sI g (m + 12) st.length (nI (b a))) m 24 (nI (st.length + 1)), hF.mono fun b j q => by unfold pF; omega, ?_⟩
    rw [show hW b (0, a, c) (st.getD (ar (0, a, c).1 - 1) 0) (st.getD 0 0) = some (b a) from hw]
    refine ⟨?_, ⟨?_, ?_⟩, ?_⟩
    · rw [f_X11_fitsStep_l22, hZ.f9, drf_s, grd_t hZ.k9, grd_t (show inr (nI i) (zl Z (m + 5)) by rw [hZ.l9]; exact inr_n (by omega) (by omega)), if_neg (show ¬ gI g (m + 5) (nI i).toNatClampNeg = 61 by rw [t1']; decide), if_pos (show gI g (m + 5) (nI i).toNatClampNeg = 65 by rw [t1']; decide)]
      simp (disch := omega) only [hZ.f9, hZ.k9, hZ.l9, hZ.f10, hZ.k10, hZ.l10, hZ.f18, hZ.k18, hZ.l18, hZ.f0, hZ.k0, hZ.l0, drf_s, grd_t, grd_true, inr_eq, clamp, t2, h24, hba, gI_sI, if_neg, nI_1]
    · show gI _ (m + 12) st.length = _
      simp (disch := omega) only [gI_sI, if_pos, if_neg, true_and, and_true, and_self, ↓reduceIte]
    · exact WsIs.ch (st := st) hF (fun j hj => by omega) hS
    · rw [gI_sI, if_pos ⟨rfl, rfl⟩]; rfl
  · have t3 : gI g (m + 7) i = nI c := t3
    have har : 1 ≤ st.length := ha
    refine ⟨g, Ch.rfl, ?_⟩
    show match hW b (1, a, c) (st.getD 0 0) (st.getD 0 0) with
      | some w => _
      | none => _
    have e : f_X11_fitsStep_l22 n Z m (nI i) (nI (st.getD 0 0)) g = if nI (st.getD 0 0) ≤ nI a then some (0, g) else some (1, g) := by
      rw [f_X11_fitsStep_l22, hZ.f9, drf_s, grd_t hZ.k9, grd_t (show inr (nI i) (zl Z (m + 5)) by rw [hZ.l9]; exact inr_n (by omega) (by omega)), if_pos (show gI g (m + 5) (nI i).toNatClampNeg = 61 by rw [t1']; decide)]
      simp (disch := omega) only [hZ.f9, hZ.k9, hZ.l9, hZ.f10, hZ.k10, hZ.l10, drf_s, grd_t, grd_true, inr_eq, clamp, t2]
    rw [e]
    by_cases h : a < st.getD 0 0
    · rw [hW_fit (nd := (1, a, c)) ⟨fun _ => h, fun z => nek z rfl, fun z => nek z rfl, fun z => nek z rfl, fun z => nek z rfl⟩, if_neg (fun z => by have := (nle (by omega) (by omega)).mp z; omega)]
      refine ⟨rfl, ?_, by rw [h24]; show _ = nI (st.length - 1 + 1); rw [Nat.sub_add_cancel har]⟩
      have hat := hS.at (i := 0) har
      refine ⟨?_, hS.drop 1⟩
      show gI g (m + 12) (st.drop 1).length = nI (st.getD 0 0)
      rw [List.length_drop]; exact hat
    · rw [hW_not (nd := (1, a, c)) (fun hf => h (hf.1 rfl)), if_pos ((nle (by omega) (by omega)).mpr (by omega))]
  · have t3 : gI g (m + 7) i = nI c := t3
    have har : 1 ≤ st.length := ha
    refine ⟨g, Ch.rfl, ?_⟩
    show match hW b (2, a, c) (st.getD 0 0) (st.getD 0 0) with
      | some w => _
      | none => _
    have e : f_X11_fitsStep_l22 n Z m (nI i) (nI (st.getD 0 0)) g = if nI (st.getD 0 0) ≤ nI a then some (0, g) else if nI (st.getD 0 0) ≤ nI c then some (0, g) else some (1, g) := by
      rw [f_X11_fitsStep_l22, hZ.f9, drf_s, grd_t hZ.k9, grd_t (show inr (nI i) (zl Z (m + 5)) by rw [hZ.l9]; exact inr_n (by omega) (by omega)), if_neg (show ¬ gI g (m + 5) (nI i).toNatClampNeg = 61 by rw [t1']; decide), if_neg (show ¬ gI g (m + 5) (nI i).toNatClampNeg = 65 by rw [t1']; decide), if_neg (show ¬ gI g (m + 5) (nI i).toNatClampNeg = 106 by rw [t1']; decide), if_neg (show ¬ gI g (m + 5) (nI i).toNatClampNeg = 112 by rw [t1']; decide), if_pos (show gI g (m + 5) (nI i).toNatClampNeg = 126 by rw [t1']; decide)]
      simp (disch := omega) only [hZ.f9, hZ.k9, hZ.l9, hZ.f10, hZ.k10, hZ.l10, hZ.f11, hZ.k11, hZ.l11, drf_s, grd_t, grd_true, inr_eq, clamp, t2, t3]
    rw [e]
    by_cases h : a < st.getD 0 0
    · rw [if_neg (fun z => by have := (nle (by omega) (by omega)).mp z; omega)]
      by_cases h2 : c < st.getD 0 0
      · rw [hW_fit (nd := (2, a, c)) ⟨fun z => nek z rfl, fun _ => ⟨h, h2⟩, fun z => nek z rfl, fun z => nek z rfl, fun z => nek z rfl⟩, if_neg (fun z => by have := (nle (by omega) (by omega)).mp z; omega)]
        refine ⟨rfl, ?_, by rw [h24]; show _ = nI (st.length - 1 + 1); rw [Nat.sub_add_cancel har]⟩
        have hat := hS.at (i := 0) har
        refine ⟨?_, hS.drop 1⟩
        show gI g (m + 12) (st.drop 1).length = nI (st.getD 0 0)
        rw [List.length_drop]; exact hat
      · rw [hW_not (nd := (2, a, c)) (fun hf => h2 (hf.2.1 rfl).2), if_pos ((nle (by omega) (by omega)).mpr (by omega))]
    · rw [hW_not (nd := (2, a, c)) (fun hf => h (hf.2.1 rfl).1), if_pos ((nle (by omega) (by omega)).mpr (by omega))]
  · have t3 : gI g (m + 7) i = nI (b4 a c a) := t3
    have har : 1 ≤ st.length := ha
    have h1p := ws_pos hst har
    have hF : Ch (fun b j => b = m + 12 ∧ j = st.length - 1) g (sI g (m + 12) (st.length - 1) (nI a)) := Ch.rfl.sI ⟨rfl, rfl⟩
    refine ⟨sI g (m + 12) (st.length - 1) (nI a), hF.mono fun b j q => by unfold pF; omega, ?_⟩
    show match hW b (3, a, c) (st.getD 0 0) (st.getD 0 0) with
      | some w => _
      | none => _
    obtain ⟨r, r1, r2, r3⟩ := m_great (n := n) (Z := Z) (g := sI g (m + 12) (st.length - 1) (nI a)) hn q2 q4
    have e2 : nI st.length - (1 : Int32) = nI (st.length - 1) := subN (a := st.length) (b := 1) (by omega)
    have e : f_X11_fitsStep_l22 n Z m (nI i) (nI (st.getD 0 0)) g = if nI (st.getD 0 0) ≤ nI r then some (0, sI g (m + 12) (st.length - 1) (nI a)) else some (1, sI g (m + 12) (st.length - 1) (nI a)) := by
      rw [f_X11_fitsStep_l22, hZ.f9, drf_s, grd_t hZ.k9, grd_t (show inr (nI i) (zl Z (m + 5)) by rw [hZ.l9]; exact inr_n (by omega) (by omega)), if_neg (show ¬ gI g (m + 5) (nI i).toNatClampNeg = 61 by rw [t1']; decide), if_neg (show ¬ gI g (m + 5) (nI i).toNatClampNeg = 65 by rw [t1']; decide), if_neg (show ¬ gI g (m + 5) (nI i).toNatClampNeg = 106 by rw [t1']; decide), if_pos (show gI g (m + 5) (nI i).toNatClampNeg = 112 by rw [t1']; decide)]
      simp (disch := omega) only [hZ.f9, hZ.k9, hZ.l9, hZ.f10, hZ.k10, hZ.l10, hZ.f11, hZ.k11, hZ.l11, hZ.f18, hZ.k18, hZ.l18, drf_s, grd_t, grd_true, inr_eq, clamp, t2, t3, h24, e2, gI_sI, if_neg]
      rw [r1, bnd_s]
    rw [e]
    by_cases h : r < st.getD 0 0
    · rw [hW_fit (nd := (3, a, c)) ⟨fun z => nek z rfl, fun z => nek z rfl, fun _ => (r3 _ h1p).mp h, fun z => nek z rfl, fun z => nek z rfl⟩, if_neg (fun z => by have := (nle (by omega) (by omega)).mp z; omega)]
      refine ⟨rfl, ⟨?_, ?_⟩, ?_⟩
      · show gI _ (m + 12) (st.drop 1).length = nI a
        rw [List.length_drop, gI_sI, if_pos ⟨rfl, rfl⟩]
      · exact WsIs.ch hF (fun j hj => by have : j < (st.drop 1).length := hj; rw [List.length_drop] at this; omega) (hS.drop 1)
      · rw [gI_sI, if_neg (by omega), h24]; show _ = nI (st.length - 1 + 1); rw [Nat.sub_add_cancel har]
    · rw [hW_not (nd := (3, a, c)) (fun hf => h ((r3 _ h1p).mpr (hf.2.2.1 rfl))), if_pos ((nle (by omega) (by omega)).mpr (by omega))]
  · have t3 : gI g (m + 7) i = nI c := t3
    have har : 2 ≤ st.length := ha
    have hs1 := ws_le hst 1
    have hat := hS.at (i := 1) (by omega)
    rw [show st.length - 1 - 1 = st.length - 2 by omega] at hat
    obtain ⟨gf, hgf⟩ : ∃ gf, gf = sI (sI g m 24 (nI (st.length - 1))) (m + 12) (st.length - 2) (nI (st.getD 1 0 + st.getD 0 0)) := ⟨_, rfl⟩
    have hF : Ch (fun b j => (b = m ∧ j = 24) ∨ (b = m + 12 ∧ j = st.length - 2)) g gf := hgf ▸ ((Ch.rfl.sI (Or.inl ⟨rfl, rfl⟩)).sI (Or.inr ⟨rfl, rfl⟩))
    refine ⟨gf, hF.mono fun b j q => by unfold pF; omega, ?_⟩
    show match hW b (4, a, c) (st.getD 1 0) (st.getD 0 0) with
      | some w => _
      | none => _
    have e1 : nI st.length - (1 : Int32) = nI (st.length - 1) := subN (a := st.length) (b := 1) (by omega)
    have e2 : nI (st.length - 1) - (1 : Int32) = nI (st.length - 2) := (subN (a := st.length - 1) (b := 1) (by omega)).trans (by congr 1)
    have e3 : nI (st.getD 1 0 + st.getD 0 0) - nI (st.getD 0 0) = nI (st.getD 1 0) := (subN (by omega)).trans (by congr 1; omega)
    have k1 : gI gf m 24 = nI (st.length - 1) := by rw [hgf]; simp (disch := omega) only [gI_sI, if_pos, if_neg, true_and, and_true, and_self, ↓reduceIte]
    have k2 : gI gf (m + 12) (st.length - 2) = nI (st.getD 1 0 + st.getD 0 0) := by rw [hgf, gI_sI, if_pos ⟨rfl, rfl⟩]
    have k3 : gI gf (m + 6) i = nI a := (hF.i (by omega)).trans t2
    have k4 : gI gf (m + 7) i = nI c := (hF.i (by omega)).trans t3
    have e : f_X11_fitsStep_l22 n Z m (nI i) (nI (st.getD 0 0)) g = if nI (st.getD 1 0) ≤ nI a then some (0, gf) else if nI (st.getD 0 0) ≤ nI c then some (0, gf) else if (4 : Int32) < nI (st.getD 1 0 + st.getD 0 0) then some (0, gf) else some (1, gf) := by
      have kk : gI (sI g m 24 (nI (st.length - 1))) m 24 = nI (st.length - 1) := by rw [gI_sI, if_pos ⟨rfl, rfl⟩]
      have kk2 : gI (sI g m 24 (nI (st.length - 1))) (m + 12) (st.length - 2) = nI (st.getD 1 0) := by rw [gI_sI, if_neg (by omega), hat]
      rw [f_X11_fitsStep_l22, hZ.f9, drf_s, grd_t hZ.k9, grd_t (show inr (nI i) (zl Z (m + 5)) by rw [hZ.l9]; exact inr_n (by omega) (by omega)), if_neg (show ¬ gI g (m + 5) (nI i).toNatClampNeg = 61 by rw [t1']; decide), if_neg (show ¬ gI g (m + 5) (nI i).toNatClampNeg = 65 by rw [t1']; decide), if_pos (show gI g (m + 5) (nI i).toNatClampNeg = 106 by rw [t1']; decide)]
      simp (disch := omega) only [hZ.f9, hZ.k9, hZ.l9, hZ.f10, hZ.k10, hZ.l10, hZ.f11, hZ.k11, hZ.l11, hZ.f18, hZ.k18, hZ.l18, drf_s, grd_t, grd_true, inr_eq, clamp, h24, e1, kk, e2, kk2, nI_add, ← hgf, k1, k2, k3, k4, e3]
    rw [e]
    by_cases h : a < st.getD 1 0
    · rw [if_neg (fun z => by have := (nle (by omega) (by omega)).mp z; omega)]
      by_cases h2 : c < st.getD 0 0
      · rw [if_neg (fun z => by have := (nle (by omega) (by omega)).mp z; omega)]
        by_cases h3 : st.getD 1 0 + st.getD 0 0 ≤ 4
        · rw [hW_fit (nd := (4, a, c)) ⟨fun z => nek z rfl, fun z => nek z rfl, fun z => nek z rfl, fun _ => ⟨h, h2, h3⟩, fun z => nek z rfl⟩, if_neg (show ¬ (4 : Int32) < nI (st.getD 1 0 + st.getD 0 0) from fun z => by have := (nlt (a := 4) (by omega) (by omega)).mp z; omega)]
          refine ⟨rfl, ⟨?_, ?_⟩, ?_⟩
          · show gI _ (m + 12) (st.drop 2).length = nI (st.getD 1 0 + st.getD 0 0)
            rw [List.length_drop]; exact k2
          · exact WsIs.ch hF (fun j hj => by have : j < (st.drop 2).length := hj; rw [List.length_drop] at this; omega) (hS.drop 2)
          · rw [k1]; show _ = nI (st.length - 2 + 1); congr 1; omega
        · rw [hW_not (nd := (4, a, c)) (fun hf => h3 (hf.2.2.2.1 rfl).2.2), if_pos (show (4 : Int32) < nI (st.getD 1 0 + st.getD 0 0) from (nlt (a := 4) (by omega) (by omega)).mpr (by omega))]
      · rw [hW_not (nd := (4, a, c)) (fun hf => h2 (hf.2.2.2.1 rfl).2.1), if_pos ((nle (by omega) (by omega)).mpr (by omega))]
    · rw [hW_not (nd := (4, a, c)) (fun hf => h (hf.2.2.2.1 rfl).1), if_pos ((nle (by omega) (by omega)).mpr (by omega))]
  · have har : 2 ≤ st.length := ha
    have hs1 := ws_le hst 1
    have hat := hS.at (i := 1) (by omega)
    rw [show st.length - 1 - 1 = st.length - 2 by omega] at hat
    have hF : Ch (fun b j => b = m ∧ j = 24) g (sI g m 24 (nI (st.length - 1))) := Ch.rfl.sI ⟨rfl, rfl⟩
    refine ⟨sI g m 24 (nI (st.length - 1)), hF.mono fun b j q => by unfold pF; omega, ?_⟩
    show match hW b (5, a, c) (st.getD 1 0) (st.getD 0 0) with
      | some w => _
      | none => _
    have e1 : nI st.length - (1 : Int32) = nI (st.length - 1) := subN (a := st.length) (b := 1) (by omega)
    have e2 : nI (st.length - 1) - (1 : Int32) = nI (st.length - 2) := (subN (a := st.length - 1) (b := 1) (by omega)).trans (by congr 1)
    have e : f_X11_fitsStep_l22 n Z m (nI i) (nI (st.getD 0 0)) g = if nI (st.getD 1 0) = nI (st.getD 0 0) then some (1, sI g m 24 (nI (st.length - 1))) else some (0, sI g m 24 (nI (st.length - 1))) := by
      have kk : gI (sI g m 24 (nI (st.length - 1))) m 24 = nI (st.length - 1) := by rw [gI_sI, if_pos ⟨rfl, rfl⟩]
      have kk2 : gI (sI g m 24 (nI (st.length - 1))) (m + 12) (st.length - 2) = nI (st.getD 1 0) := by rw [gI_sI, if_neg (by omega), hat]
      rw [f_X11_fitsStep_l22, hZ.f9, drf_s, grd_t hZ.k9, grd_t (show inr (nI i) (zl Z (m + 5)) by rw [hZ.l9]; exact inr_n (by omega) (by omega)), if_neg (show ¬ gI g (m + 5) (nI i).toNatClampNeg = 61 by rw [t1']; decide), if_neg (show ¬ gI g (m + 5) (nI i).toNatClampNeg = 65 by rw [t1']; decide), if_neg (show ¬ gI g (m + 5) (nI i).toNatClampNeg = 106 by rw [t1']; decide), if_neg (show ¬ gI g (m + 5) (nI i).toNatClampNeg = 112 by rw [t1']; decide), if_neg (show ¬ gI g (m + 5) (nI i).toNatClampNeg = 126 by rw [t1']; decide)]
      simp (disch := omega) only [hZ.f9, hZ.k9, hZ.l9, hZ.f18, hZ.k18, hZ.l18, drf_s, grd_t, grd_true, inr_eq, clamp, h24, e1, kk, e2, kk2]
    rw [e]
    by_cases h : st.getD 1 0 = st.getD 0 0
    · rw [hW_fit (nd := (5, a, c)) ⟨fun z => nek z rfl, fun z => nek z rfl, fun z => nek z rfl, fun z => nek z rfl, fun _ => h⟩, if_pos (by rw [h])]
      refine ⟨rfl, ⟨?_, ?_⟩, ?_⟩
      · show gI _ (m + 12) (st.drop 2).length = nI (st.getD 1 0)
        rw [List.length_drop, gI_sI, if_neg (by omega)]; exact hat
      · exact WsIs.ch hF (fun j hj => by omega) (hS.drop 2)
      · rw [gI_sI, if_pos ⟨rfl, rfl⟩]; show _ = nI (st.length - 2 + 1); congr 1; omega
    · rw [hW_not (nd := (5, a, c)) (fun hf => h (hf.2.2.2.2 rfl)), if_neg (fun z => h ((neq (by omega) (by omega)).mp z))]
theorem fitsL {n : Nat} {Z : Zt} {m : Nat} {b : Nat → Nat} {L : List Nd} (hn : 40 ≤ n) (hZ : MZ Z m) (hb : BOk b) (hN : L.length ≤ 60) (hk : ∀ x ∈ L, NOk x) : ∀ (d i fu : Nat) (g : Mem) (st : List Nat), d = L.length - i → i ≤ L.length → d < fu → BIs g m b → SIs g m L → (∀ x ∈ st, 1 ≤ x ∧ x ≤ 4) → WsIs g (m + 12) st → gI g m 24 = nI st.length → mdp st.length (L.drop i) 1 → st.length + ownL (L.drop i) ≤ 60 →
    ∃ g', f_X11_fits_l9 n Z m fu 1 (nI i) g = some (if (mrun (hW b) 0 (L.drop i) st).isSome then 1 else 0, g') ∧ Ch (pF m) g g' := by
  intro d
  induction d with
  | zero =>
    intro i fu g st hd hi hfu hB hL hst hS h24 hdp hol
    obtain ⟨fu, rfl⟩ : ∃ q, fu = q + 1 := ⟨fu - 1, by omega⟩
    have hie : i = L.length := by omega
    subst hie
    rw [List.drop_length]
    refine ⟨g, ?_, Ch.rfl⟩
    have h12 := hL.1
    rw [f_X11_fits_l9, h12, if_pos ((nle (by omega) (by omega)).mpr (Nat.le_refl _)), grd_t (Or.inr rfl)]
    rfl
  | succ d ih =>
    intro i fu g st hd hi hfu hB hL hst hS h24 hdp hol
    obtain ⟨fu, rfl⟩ : ∃ q, fu = q + 1 := ⟨fu - 1, by omega⟩
    have hiL : i < L.length := by omega
    obtain ⟨nd, hnd⟩ : ∃ nd, nd = L.getD i (0, 0, 0) := ⟨_, rfl⟩
    have hdr : L.drop i = nd :: L.drop (i + 1) := hnd ▸ drop_one _ _ _ hiL
    rw [hdr] at hdp hol ⊢
    have hmem : nd ∈ L := hnd ▸ getD_mem hiL
    have hNk := hk nd hmem
    have hown := (own_ar nd).1
    have hol' : st.length + (own nd + ownL (L.drop (i + 1))) ≤ 60 := hol
    have hdn := mdp_down hdp
    have hdn' : 4 * st.length ≤ 4 * 1 + (own nd + ownL (L.drop (i + 1))) := hdn
    have hl12 : st.length ≤ 12 := by omega
    have har : ar nd.1 ≤ st.length := hdp.1
    have hT : StepAt g m i nd := hnd ▸ hL.2 i hiL
    obtain ⟨g1, hF, h⟩ := m_fitsStep (n := n) hn hZ hb hB (show i < 60 by omega) hT hNk hl12 har hst hS h24
    have hms : mst (hW b) 0 nd st = (hW b nd (st.getD (ar nd.1 - 1) 0) (st.getD 0 0)).map fun x => x :: st.drop (ar nd.1) := by
      unfold mst
      rw [if_neg (by omega)]
    have h12 := hL.1
    show ∃ g', _ = some (if ((mst (hW b) 0 nd st).bind (mrun (hW b) 0 (L.drop (i + 1)))).isSome = true then 1 else 0, g') ∧ _
    rw [hms, f_X11_fits_l9, h12, if_neg (fun z => by have := (nle (by omega) (by omega)).mp z; omega), if_neg i10]
    cases hw : hW b nd (st.getD (ar nd.1 - 1) 0) (st.getD 0 0) with
    | none =>
      rw [hw] at h
      refine ⟨g1, ?_, hF⟩
      obtain ⟨fu, rfl⟩ : ∃ q, fu = q + 1 := ⟨fu - 1, by omega⟩
      rw [h, bnd_s, f_X11_fits_l9, grd_t (Or.inl rfl)]
      by_cases hc : gI g1 m 12 ≤ nI i + 1
      · rw [if_pos hc]; rfl
      · rw [if_neg hc, if_pos rfl]; rfl
    | some w =>
      rw [hw] at h
      obtain ⟨h1, h2, h3⟩ := h
      have hwr : 1 ≤ w ∧ w ≤ 4 := by
        have hfit := (hW_some hw).1
        have hpos : 1 ≤ ar nd.1 → 1 ≤ st.getD (ar nd.1 - 1) 0 := fun z => ws_pos hst (by omega)
        have h5 : nd.1 = 5 → 1 ≤ st.getD (ar nd.1 - 1) 0 := fun z => hpos (by unfold ar; rw [if_neg (by omega), if_pos (Or.inr z)]; omega)
        have h4 := ws_le hst (ar nd.1 - 1)
        rcases hW_rng hb hNk h5 hw with h | ⟨h, h'⟩ | ⟨h, h'⟩ | ⟨h, h'⟩
        · exact h
        · have := hfit.1 h; omega
        · have := (hfit.2.1 h).1; omega
        · have := h5 h; omega
      have hlen : (w :: st.drop (ar nd.1)).length = st.length - ar nd.1 + 1 := by rw [List.length_cons, List.length_drop]
      obtain ⟨g', c1, c2⟩ := ih (i + 1) fu g1 (w :: st.drop (ar nd.1)) (by omega) (by omega) (by omega) (hB.ch hF fun j => by unfold pF; omega) ⟨(hF.i (by unfold pF; omega)).trans h12, fun k hk => (hL.2 k hk).ch hF fun b q => by unfold pF; omega⟩ (fun x hx => by
        rcases List.mem_cons.mp hx with z | z
        · subst z; exact hwr
        · exact hst x (List.mem_of_mem_drop z)) h2 (by rw [hlen]; exact h3) (by rw [hlen]; exact hdp.2) (by rw [hlen]; omega)
      exact ⟨g', by rw [h1, bnd_s, nI_1]; exact c1, hF.trans c2⟩
theorem m_fits {n : Nat} {Z : Zt} {m : Nat} {b : Nat → Nat} {pre : List Nd} {g : Mem} (hn : 100 ≤ n) (hZ : MZ Z m) (hb : BOk b) (hB : BIs g m b) (hw : wfn pre 1) (ho : ownL pre ≤ 60) (hk : ∀ x ∈ pre, NOk x) (hS : SIs g m (post pre)) :
    ∃ g', f_X11_fits n Z m g = some (if (qw b pre).isSome then 1 else 0, g') ∧ Ch (pF m) g g' := by
  have hpo := post_own hw
  have hlen : (post pre).length ≤ 60 := Nat.le_trans (wfn_len (L := post pre)) (by rw [hpo]; exact ho)
  have hF : Ch (pF m) g (sI g m 24 (0 : Int32)) := Ch.rfl.sI (Or.inl ⟨rfl, rfl⟩)
  obtain ⟨g', e, f⟩ := fitsL (n := n) (L := post pre) (by omega) hZ hb hlen (post_mem hk) (post pre).length 0 n (sI g m 24 (0 : Int32)) [] rfl (Nat.zero_le _) (by omega) (hB.ch hF fun j => by unfold pF; omega) ⟨(hF.i (by unfold pF; omega)).trans hS.1, fun k hk => (hS.2 k hk).ch hF fun b q => by unfold pF; omega⟩ (fun v hv => by cases hv) trivial (by rw [gI_sI, if_pos ⟨rfl, rfl⟩]; rfl) (by rw [List.drop_zero]; exact post_mdp hw) (by rw [List.drop_zero, hpo]; simpa using ho)
  refine ⟨g', ?_, hF.trans f⟩
  have hrun := (run_agree (hW_ign b) (d := 0) hw).2
  have hsome : (mrun (hW b) 0 ((post pre).drop 0) []).isSome = (qw b pre).isSome := by
    rw [List.drop_zero, hrun]
    show (Option.map _ (qw b pre)).isSome = _
    cases qw b pre <;> rfl
  rw [hsome] at e
  unfold f_X11_fits
  rw [grd_t hZ.k]
  exact e

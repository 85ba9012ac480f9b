/-! THE REFERENCE READS -/
def pP (m b j : Nat) : Prop := (b = m ∧ (j = 7 ∨ j = 8 ∨ j = 12 ∨ j = 17)) ∨ (m + 5 ≤ b ∧ b ≤ m + 11)
def hI (t : Nat) : Int32 := if t = 0 then -6 else nI t
theorem hI_eq {t x : Nat} (ht : t < 128) (hx : 0 < x) (hx2 : x < 128) : hI t = nI x ↔ t = x := by
  unfold hI
  by_cases h : t = 0
  · subst h
    rw [if_pos rfl]
    refine ⟨fun q => ?_, fun q => by omega⟩
    have h1 : nI x < 0 := by rw [← q]; decide
    exact absurd h1 (fun z => nI_nlt (a := x) (b := 0) (Nat.zero_le _) (by omega) z)
  · rw [if_neg h]; exact neq (by omega) (by omega)
theorem hI_rng {n : Nat} {Z : Zt} {g : Mem} {t lo hi : Nat} (ht : t < 128) (h1 : 0 < lo) (h2 : hi < 128) (hl : lo < 128) : f_X11_in n Z (hI t) (nI lo) (nI hi) g = some (if lo ≤ t ∧ t ≤ hi then 1 else 0, g) := by
  unfold f_X11_in hI
  by_cases h : t = 0
  · subst h
    rw [if_pos (show (0 : Nat) = 0 from rfl)]
    have : (-6 : Int32) < nI lo := Int32.lt_of_lt_of_le (b := 0) (by decide) (le0 (by omega))
    rw [if_pos this, if_neg (by omega)]
  · rw [if_neg h]
    by_cases q1 : t < lo
    · rw [if_pos ((nlt (by omega) (by omega)).mpr q1), if_neg (by omega)]
    · rw [if_neg (fun z => q1 ((nlt (by omega) (by omega)).mp z))]
      by_cases q2 : hi < t
      · rw [if_pos ((nlt (by omega) (by omega)).mpr q2), if_neg (by omega)]
      · rw [if_neg (fun z => q2 ((nlt (by omega) (by omega)).mp z)), if_pos (by omega)]
def OpIs (g : Mem) (m : Nat) : List (Nd × Nat) → Prop
  | [] => True
  | (nd, h) :: O => gI g (m + 8) O.length = nI (kc nd.1) ∧ gI g (m + 9) O.length = nI nd.2.1 ∧ gI g (m + 10) O.length = nI (mSec nd) ∧ gI g (m + 11) O.length = nI h ∧ OpIs g m O
theorem OpIs.ch {P : Nat → Nat → Prop} {g g' : Mem} {m : Nat} (hF : Ch P g g') : ∀ {O : List (Nd × Nat)}, (∀ b j, m + 8 ≤ b → b ≤ m + 11 → j < O.length → ¬ P b j) → OpIs g m O → OpIs g' m O
  | [], _, _ => trivial
  | (nd, h) :: O, hP, hS => ⟨(hF.i (hP _ _ (by omega) (by omega) (by simp))).trans hS.1, (hF.i (hP _ _ (by omega) (by omega) (by simp))).trans hS.2.1, (hF.i (hP _ _ (by omega) (by omega) (by simp))).trans hS.2.2.1, (hF.i (hP _ _ (by omega) (by omega) (by simp))).trans hS.2.2.2.1, OpIs.ch hF (fun b j h1 h2 h3 => hP b j h1 h2 (by simp only [List.length_cons]; omega)) hS.2.2.2.2⟩
/-- the source -/
def SrcIs (g : Mem) (m len : Nat) (T : Nat → Nat) : Prop := gI g m 6 = nI len ∧ ∀ k, k < len → gI g (m + 4) k = nI (T k)
theorem SrcIs.ch {P : Nat → Nat → Prop} {g g' : Mem} {m len : Nat} {T : Nat → Nat} (h : SrcIs g m len T) (hF : Ch P g g') (hP : ¬ P m 6 ∧ ∀ j, ¬ P (m + 4) j) : SrcIs g' m len T :=
  ⟨(hF.i hP.1).trans h.1, fun k hk => (hF.i (hP.2 k)).trans (h.2 k hk)⟩
/-- the reference under way -/
def MP (g : Mem) (m len : Nat) (T : Nat → Nat) (p F : Nat) (O : List (Nd × Nat)) (S : List Nd) : Prop := SrcIs g m len T ∧ gI g m 7 = nI p ∧ p < 100 ∧ gI g m 8 = nI F ∧ F ≤ 1 ∧ gI g m 12 = nI S.length ∧ (∀ k, k < S.length → StepAt g m k (S.getD k (0, 0, 0))) ∧ gI g m 17 = nI O.length ∧ OpIs g m O
/-- .. that has failed -/
def MFail (g : Mem) (m p : Nat) : Prop := gI g m 7 = nI p ∧ gI g m 8 = 0
theorem MP.fail {g : Mem} {m len p : Nat} {T : Nat → Nat} {O : List (Nd × Nat)} {S : List Nd} (h : MP g m len T p 0 O S) : MFail g m p := ⟨h.2.1, h.2.2.2.1⟩
theorem mp_here {n : Nat} {Z : Zt} {m len p F : Nat} {T : Nat → Nat} {O : List (Nd × Nat)} {S : List Nd} {g : Mem} (hZ : MZ Z m) (hT : TOk T len) (h : MP g m len T p F O S) : f_X11_here n Z m g = some (hI (T p), g) := by
  obtain ⟨⟨h1, h2⟩, h3, h4, _⟩ := h
  have hl := hT.1
  unfold f_X11_here
  rw [grd_t hZ.k, h1, h3]
  unfold hI
  by_cases hp : p < len
  · have ht := (hT.2.1 p hp).1
    have hc := h2 p hp
    rw [if_neg (fun z => by have := (nle (by omega) (by omega)).mp z; omega), if_neg (by omega)]
    simp (disch := omega) only [hZ.f5, hZ.k5, hZ.l5, drf_s, grd_t, grd_true, inr_eq, clamp, hc]
  · rw [if_pos ((nle (by omega) (by omega)).mpr (by omega)), if_pos (hT.2.2 p (by omega))]
theorem mp_takes {n : Nat} {Z : Zt} {m len p F x : Nat} {T : Nat → Nat} {O : List (Nd × Nat)} {S : List Nd} {g : Mem} (hZ : MZ Z m) (h : MP g m len T p F O S) (hx : x ≤ 1) (hp : p < 99) : ∃ g', f_X11_takes n Z m (nI x) g = some ((), g') ∧ MP g' m len T (if F = 1 ∧ x = 1 then p + 1 else p) (if F = 1 ∧ x = 1 then 1 else 0) O S ∧ Ch (pP m) g g' := by
  obtain ⟨h1, h3, h4, h5, h6, h7, h8, h9, h10⟩ := h
  have main : ∀ (F' p' : Nat), F' ≤ 1 → p' < 100 → MP (sI (sI g m 8 (nI F')) m 7 (nI p')) m len T p' F' O S ∧ Ch (pP m) g (sI (sI g m 8 (nI F')) m 7 (nI p')) := by
    intro F' p' hF' hp'
    have hF : Ch (fun b j => b = m ∧ (j = 7 ∨ j = 8)) g (sI (sI g m 8 (nI F')) m 7 (nI p')) := (Ch.rfl.sI ⟨rfl, Or.inr rfl⟩).sI ⟨rfl, Or.inl rfl⟩
    refine ⟨⟨h1.ch hF ⟨by omega, fun j => by omega⟩, by rw [gI_sI, if_pos ⟨rfl, rfl⟩], hp', ?_, hF', (hF.i (by omega)).trans h7, fun k hk => (h8 k hk).ch hF fun b hb => by omega, (hF.i (by omega)).trans h9, h10.ch hF fun b j a1 a2 a3 => by omega⟩, hF.mono fun b j q => by unfold pP; omega⟩
    simp (disch := omega) only [gI_sI, if_pos, if_neg, true_and, and_true, and_self, ↓reduceIte]
  have k17 : ∀ s0 : Int32, gI (sI g m 8 s0) m 7 = nI p := fun s0 => by rw [gI_sI, if_neg (by omega)]; exact h3
  have k18 : ∀ s0 : Int32, gI (sI g m 8 s0) m 8 = s0 := fun s0 => by rw [gI_sI, if_pos ⟨rfl, rfl⟩]
  have z0 : f_X11_takes_l17 n Z m 0 m g = some ((), sI (sI g m 8 0) m 7 (nI p)) := by
    unfold f_X11_takes_l17
    rw [grd_t hZ.k, grd_t (Or.inl rfl), k18, if_pos rfl, k17]
    show some ((), sI _ m 7 (nI p + nI 0)) = _
    rw [nI_add]; rfl
  have z1 : f_X11_takes_l17 n Z m 1 m g = some ((), sI (sI g m 8 1) m 7 (nI (p + 1))) := by
    unfold f_X11_takes_l17
    rw [grd_t hZ.k, grd_t (Or.inr rfl), k18, if_neg i10, k17, nI_1]
  unfold f_X11_takes f_X11_takes_l16
  rw [grd_t hZ.k, h5]
  by_cases hc : F = 1 ∧ x = 1
  · obtain ⟨c1, c2⟩ := hc
    subst c1; subst c2
    rw [if_pos (show 1 = 1 ∧ 1 = 1 from ⟨rfl, rfl⟩), if_pos (show 1 = 1 ∧ 1 = 1 from ⟨rfl, rfl⟩)]
    obtain ⟨a, b⟩ := main 1 (p + 1) (by omega) (by omega)
    refine ⟨_, ?_, a, b⟩
    rw [if_neg (show ¬ nI 1 = 0 by decide), if_neg (show ¬ nI 1 = 0 by decide), z1]; rfl
  · rw [if_neg hc, if_neg hc]
    obtain ⟨a, b⟩ := main 0 p (by omega) (by omega)
    refine ⟨_, ?_, a, b⟩
    by_cases hF0 : F = 0
    · subst hF0
      rw [if_pos (show nI 0 = 0 from rfl), z0]; rfl
    · have hF1 : F = 1 := by omega
      have hx0 : x = 0 := by omega
      subst hF1; subst hx0
      rw [if_neg (show ¬ nI 1 = 0 by decide), if_pos (show nI 0 = 0 from rfl), z0]; rfl
theorem mp_dig {n : Nat} {Z : Zt} {m len p F most : Nat} {T : Nat → Nat} {O : List (Nd × Nat)} {S : List Nd} {g : Mem} (hZ : MZ Z m) (hT : TOk T len) (h : MP g m len T p F O S) (hm : most ≤ 9) (hp : p < 99) : ∃ r g', f_X11_takesDigit n Z m (nI most) g = some (r, g') ∧ Ch (pP m) g g' ∧ match (if F = 1 then tDig T p (most + 1) else none) with
    | some d => r = nI d ∧ MP g' m len T (p + 1) 1 O S
    | none => MP g' m len T p 0 O S := by
  have ht := hT.lt p
  have hin := hI_rng (n := n) (Z := Z) (g := g) (t := T p) (lo := 48) (hi := 48 + most) ht (by omega) (by omega) (by omega)
  have hh := mp_here (n := n) hZ hT h
  unfold f_X11_takesDigit
  rw [grd_t hZ.k, hh, bnd_s, hh, bnd_s, show ((48 : Int32) + nI most) = nI (48 + most) from nI_add 48 most, show f_X11_in n Z (hI (T p)) (48 : Int32) (nI (48 + most)) g = _ from hin, bnd_s]
  unfold tDig
  by_cases hc : 48 ≤ T p ∧ T p ≤ 48 + most
  · rw [if_pos hc]
    obtain ⟨g', a1, a2, a3⟩ := mp_takes (n := n) (x := 1) hZ h (by omega) hp
    refine ⟨hI (T p) - 48, g', ?_, a3, ?_⟩
    · show bnd (f_X11_takes n Z m (nI 1) g) _ = _
      rw [a1, bnd_s]
    · by_cases hF : F = 1
      · rw [if_pos hF, if_pos (by omega)]
        rw [if_pos ⟨hF, rfl⟩, if_pos ⟨hF, rfl⟩] at a2
        refine ⟨?_, a2⟩
        unfold hI
        rw [if_neg (by omega)]
        exact subN (b := 48) hc.1
      · rw [if_neg hF]
        rw [if_neg (fun z => hF z.1), if_neg (fun z => hF z.1)] at a2
        exact a2
  · rw [if_neg hc]
    obtain ⟨g', a1, a2, a3⟩ := mp_takes (n := n) (x := 0) hZ h (by omega) hp
    refine ⟨hI (T p) - 48, g', ?_, a3, ?_⟩
    · show bnd (f_X11_takes n Z m (nI 0) g) _ = _
      rw [a1, bnd_s]
    · rw [if_neg (by omega), if_neg (by omega)] at a2
      by_cases hF : F = 1
      · rw [if_pos hF, if_neg (by omega)]; exact a2
      · rw [if_neg hF]; exact a2
theorem mp_open {n : Nat} {Z : Zt} {m len p F : Nat} {T : Nat → Nat} {O : List (Nd × Nat)} {S : List Nd} {x1 x2 x3 : Int32} {g : Mem} (hZ : MZ Z m) (hT : TOk T len) (h : MP g m len T p F O S) (hO : O.length < 60) (hp : p < 99) : ∃ g', f_X11_opensOne n Z m x1 x2 x3 g = some ((), g') ∧ Ch (pP m) g g' ∧ (F = 1 ∧ T p = 40 → ∀ nd : Nd, x1 = nI (kc nd.1) → x2 = nI nd.2.1 → x3 = nI (mSec nd) → MP g' m len T (p + 1) 1 ((nd, 0) :: O) S) ∧ (¬ (F = 1 ∧ T p = 40) → MFail g' m p) := by
  have ht := hT.lt p
  have hh := mp_here (n := n) hZ hT h
  obtain ⟨x, hx, hxv, hxe⟩ : ∃ x : Nat, x ≤ 1 ∧ (x = 1 ↔ T p = 40) ∧ f_X11_opensOne n Z m x1 x2 x3 g = f_X11_opensOne_l15 n Z m x1 x2 x3 (nI x) m g := by
    unfold f_X11_opensOne
    rw [grd_t hZ.k, hh, bnd_s]
    by_cases hc : T p = 40
    · exact ⟨1, by omega, by simp [hc], by rw [if_pos (show hI (T p) = 40 from (hI_eq (x := 40) ht (by omega) (by omega)).mpr hc)]; rfl⟩
    · exact ⟨0, by omega, by simp [hc], by rw [if_neg (show ¬ hI (T p) = 40 from fun z => hc ((hI_eq (x := 40) ht (by omega) (by omega)).mp z))]; rfl⟩
  rw [hxe]
  obtain ⟨g1, a1, a2, a3⟩ := mp_takes (n := n) (x := x) hZ h hx hp
  obtain ⟨g', hg'⟩ : ∃ g', g' = sI (sI (sI (sI (sI g1 (m + 8) O.length x1) (m + 9) O.length x2) (m + 10) O.length x3) (m + 11) O.length 0) m 17 (nI (O.length + 1)) := ⟨_, rfl⟩
  have h17 := a2.2.2.2.2.2.2.2.1
  have hF : Ch (fun b j => (b = m ∧ j = 17) ∨ ((m + 8 ≤ b ∧ b ≤ m + 11) ∧ j = O.length)) g1 g' := by
    rw [hg']
    exact ((((Ch.rfl.sI (Or.inr ⟨by omega, rfl⟩)).sI (Or.inr ⟨by omega, rfl⟩)).sI (Or.inr ⟨by omega, rfl⟩)).sI (Or.inr ⟨by omega, rfl⟩)).sI (Or.inl ⟨rfl, rfl⟩)
  refine ⟨g', ?_, a3.trans (hF.mono fun b j q => by unfold pP; omega), ?_, ?_⟩
  · unfold f_X11_opensOne_l15
    rw [a1, bnd_s]
    simp (disch := omega) only [hZ.f13, hZ.k13, hZ.l13, hZ.f14, hZ.k14, hZ.l14, hZ.f15, hZ.k15, hZ.l15, hZ.f16, hZ.k16, hZ.l16, drf_s, grd_t, grd_true, gI_sI, if_neg, h17, inr_eq, clamp, nI_1, ← hg']
  · intro hc nd e1 e2 e3
    have hx1 : x = 1 := hxv.mpr hc.2
    rw [if_pos ⟨hc.1, hx1⟩, if_pos ⟨hc.1, hx1⟩] at a2
    obtain ⟨b1, b2, b3, b4, b5, b6, b7, b8, b9⟩ := a2
    refine ⟨b1.ch hF ⟨by omega, fun j => by omega⟩, (hF.i (by omega)).trans b2, b3, (hF.i (by omega)).trans b4, b5, (hF.i (by omega)).trans b6, fun k hk => (b7 k hk).ch hF fun b hb => by omega, by rw [hg', gI_sI, if_pos ⟨rfl, rfl⟩, List.length_cons], ?_, ?_, ?_, ?_, b9.ch hF fun b j q1 q2 q3 => by omega⟩
    · rw [hg', ← e1]; simp (disch := omega) only [gI_sI, if_pos, if_neg, true_and, and_true, and_self, ↓reduceIte]
    · rw [hg', ← e2]; simp (disch := omega) only [gI_sI, if_pos, if_neg, true_and, and_true, and_self, ↓reduceIte]
    · rw [hg', ← e3]; simp (disch := omega) only [gI_sI, if_pos, if_neg, true_and, and_true, and_self, ↓reduceIte]
    · rw [hg']; simp (disch := omega) only [gI_sI, if_pos, if_neg, true_and, and_true, and_self, ↓reduceIte]; rfl
  · intro hc
    have hx1 : ¬ (F = 1 ∧ x = 1) := fun z => hc ⟨z.1, hxv.mp z.2⟩
    rw [if_neg hx1, if_neg hx1] at a2
    exact ⟨(hF.i (by omega)).trans a2.2.1, (hF.i (by omega)).trans a2.2.2.2.1⟩

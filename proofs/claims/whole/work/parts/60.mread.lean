theorem mp_emit {n : Nat} {Z : Zt} {m k : Nat} {x1 x2 x3 : Int32} {g : Mem} (hZ : MZ Z m) (h12 : gI g m 12 = nI k) (hk : k < 60) : ∃ g', f_X11_emits n Z m x1 x2 x3 g = some ((), g') ∧ Ch (fun b j => (b = m ∧ j = 12) ∨ ((b = m + 5 ∨ b = m + 6 ∨ b = m + 7) ∧ j = k)) g g' ∧ gI g' m 12 = nI (k + 1) ∧ gI g' (m + 5) k = x1 ∧ gI g' (m + 6) k = x2 ∧ gI g' (m + 7) k = x3 := by
  obtain ⟨g', hg'⟩ : ∃ g', g' = sI (sI (sI (sI g (m + 5) k x1) (m + 6) k x2) (m + 7) k x3) m 12 (nI (k + 1)) := ⟨_, rfl⟩
  have hF : Ch (fun b j => (b = m ∧ j = 12) ∨ ((b = m + 5 ∨ b = m + 6 ∨ b = m + 7) ∧ j = k)) g g' := by
    rw [hg']
    exact (((Ch.rfl.sI (Or.inr ⟨Or.inl rfl, rfl⟩)).sI (Or.inr ⟨Or.inr (Or.inl rfl), rfl⟩)).sI (Or.inr ⟨Or.inr (Or.inr rfl), rfl⟩)).sI (Or.inl ⟨rfl, rfl⟩)
  refine ⟨g', ?_, hF, ?_, ?_, ?_, ?_⟩
  · unfold f_X11_emits
    simp (disch := omega) only [hZ.k, hZ.f9, hZ.k9, hZ.l9, hZ.f10, hZ.k10, hZ.l10, hZ.f11, hZ.k11, hZ.l11, drf_s, grd_t, grd_true, gI_sI, if_neg, h12, inr_eq, clamp, nI_1, ← hg']
  · rw [hg', gI_sI, if_pos ⟨rfl, rfl⟩]
  · rw [hg']; simp (disch := omega) only [gI_sI, if_pos, if_neg, true_and, and_true, and_self, ↓reduceIte]
  · rw [hg']; simp (disch := omega) only [gI_sI, if_pos, if_neg, true_and, and_true, and_self, ↓reduceIte]
  · rw [hg']; simp (disch := omega) only [gI_sI, if_pos, if_neg, true_and, and_true, and_self, ↓reduceIte]
/-- a step comes to those that are there -/
theorem MP.emit {g g' : Mem} {m len p : Nat} {T : Nat → Nat} {O : List (Nd × Nat)} {S : List Nd} {nd : Nd} (h : MP g m len T p 1 O S) (hS : S.length < 60) (hF : Ch (fun b j => (b = m ∧ j = 12) ∨ ((b = m + 5 ∨ b = m + 6 ∨ b = m + 7) ∧ j = S.length)) g g') (h12 : gI g' m 12 = nI (S.length + 1)) (h1 : gI g' (m + 5) S.length = nI (kc nd.1)) (h2 : gI g' (m + 6) S.length = nI nd.2.1) (h3 : gI g' (m + 7) S.length = nI (mSec nd)) : MP g' m len T p 1 O (S ++ [nd]) := by
  obtain ⟨b1, b2, b3, b4, b5, b6, b7, b8, b9⟩ := h
  refine ⟨b1.ch hF ⟨by omega, fun j => by omega⟩, (hF.i (by omega)).trans b2, b3, (hF.i (by omega)).trans b4, b5, by rw [h12, List.length_append]; rfl, fun k hk => ?_, (hF.i (by omega)).trans b8, b9.ch hF fun b j q1 q2 q3 => by omega⟩
  rw [List.length_append, List.length_singleton] at hk
  by_cases hkp : k < S.length
  · rw [getD_append_left' hkp]
    exact (b7 k hkp).ch hF fun b hb => by omega
  · have hke : k = S.length := by omega
    subst hke
    rw [getD_append_right']
    exact ⟨h1, h2, h3⟩
/-- a query begins -/
theorem mp_begin {n : Nat} {Z : Zt} {m len p : Nat} {T : Nat → Nat} {O : List (Nd × Nat)} {S : List Nd} {g : Mem} (hn : 40 ≤ n) (hZ : MZ Z m) (hT : TOk T len) (h : MP g m len T p 1 O S) (hO : O.length < 60) (hS : S.length < 60) (hp : p ≤ 60) : ∃ r g', f_X11_takesBegin n Z m g = some (r, g') ∧ Ch (pP m) g g' ∧ match (phead T p).1 with
    | some nd => if ar nd.1 = 0 then r = 1 ∧ MP g' m len T (phead T p).2 1 O (S ++ [nd]) else r = 0 ∧ MP g' m len T (phead T p).2 1 ((nd, 0) :: O) S
    | none => MFail g' m (phead T p).2 := by
  have hl60 := hT.1
  have ht := hT.lt p
  have hh := mp_here (n := n) hZ hT h
  have hin := hI_rng (n := n) (Z := Z) (g := g) (t := T p) (lo := 65) (hi := 68) ht (by omega) (by omega) (by omega)
  have k115 : hI (T p) = 115 ↔ T p = 115 := hI_eq (x := 115) ht (by omega) (by omega)
  have k112 : hI (T p) = 112 ↔ T p = 112 := hI_eq (x := 112) ht (by omega) (by omega)
  have k106 : hI (T p) = 106 ↔ T p = 106 := hI_eq (x := 106) ht (by omega) (by omega)
  have k117 : hI (T p) = 117 ↔ T p = 117 := hI_eq (x := 117) ht (by omega) (by omega)
  have good : (65 ≤ T p ∧ T p ≤ 68) ∨ T p = 115 ∨ T p = 112 ∨ T p = 106 ∨ T p = 117 → f_X11_takesBegin n Z m g = f_X11_takesBegin_l46 n Z m (hI (T p)) (nI 1) m g := by
    intro hc
    unfold f_X11_takesBegin
    rw [grd_t hZ.k, hh, bnd_s, show f_X11_in n Z (hI (T p)) (65 : Int32) (68 : Int32) g = _ from hin, bnd_s]
    by_cases c0 : 65 ≤ T p ∧ T p ≤ 68
    · rw [if_pos c0, if_neg i10]; rfl
    · rw [if_neg c0, if_pos rfl]
      by_cases c1 : T p = 115
      · rw [if_pos (k115.mpr c1)]; rfl
      · rw [if_neg (fun z => c1 (k115.mp z))]
        by_cases c2 : T p = 112
        · rw [if_pos (k112.mpr c2)]; rfl
        · rw [if_neg (fun z => c2 (k112.mp z))]
          by_cases c3 : T p = 106
          · rw [if_pos (k106.mpr c3)]; rfl
          · rw [if_neg (fun z => c3 (k106.mp z)), if_pos (k117.mpr (by omega))]; rfl
  unfold phead
  obtain ⟨g1, a1, a2, a3⟩ := mp_takes (n := n) (x := 1) hZ h (by omega) (by omega)
  rw [if_pos (show 1 = 1 ∧ 1 = 1 from ⟨rfl, rfl⟩), if_pos (show 1 = 1 ∧ 1 = 1 from ⟨rfl, rfl⟩)] at a2
  have f8 : ¬ gI g1 m 8 = 0 := by rw [a2.2.2.2.1]; decide
  have op : ∀ {f : Option (Unit × Mem)} {r : Option Nd × Nat}, MHd f g1 m len T O S r → (∀ nd, r.1 = some nd → ar nd.1 ≠ 0) → ∃ r' g', (bnd f fun _ g36 => some ((0 : Int32), g36)) = some (r', g') ∧ Ch (pP m) g g' ∧ match r.1 with
    | some nd => if ar nd.1 = 0 then r' = 1 ∧ MP g' m len T r.2 1 O (S ++ [nd]) else r' = 0 ∧ MP g' m len T r.2 1 ((nd, 0) :: O) S
    | none => MFail g' m r.2 := by
    intro f r ⟨g2, b1, b2, b3⟩ hr
    refine ⟨0, g2, by rw [b1, bnd_s], a3.trans b2, ?_⟩
    unfold MH at b3
    cases hq : r.1 with
    | none => rw [hq] at b3; exact b3
    | some nd =>
      rw [hq] at b3
      dsimp only at b3 ⊢
      rw [if_neg (hr nd hq)]
      exact ⟨rfl, b3⟩
  by_cases c0 : 65 ≤ T p ∧ T p < 69
  · rw [if_pos c0, good (Or.inl (by omega))]
    unfold f_X11_takesBegin_l46
    rw [a1, bnd_s, if_neg f8, if_neg (fun z => by have := k106.mp z; omega), if_neg (fun z => by have := k112.mp z; omega), if_neg (fun z => by have := k115.mp z; omega), if_neg (fun z => by have := k117.mp z; omega)]
    have hx : hI (T p) - (65 : Int32) = nI (T p - 65) := by
      unfold hI; rw [if_neg (by omega)]; exact subN (b := 65) c0.1
    rw [hx]
    obtain ⟨g2, b1, b2, b3, b4, b5, b6⟩ := mp_emit (n := n) (x1 := (65 : Int32)) (x2 := nI (T p - 65)) (x3 := (0 : Int32)) hZ a2.2.2.2.2.2.1 hS
    refine ⟨1, g2, by rw [b1, bnd_s], a3.trans (b2.mono fun b j q => by unfold pP; omega), ?_⟩
    dsimp only
    rw [if_pos (show ar 0 = 0 from rfl)]
    exact ⟨rfl, a2.emit (nd := (0, T p - 65, 0)) hS b2 b3 b4 b5 b6⟩
  · rw [if_neg c0]
    by_cases c1 : T p = 106
    · rw [if_pos c1, good (Or.inr (Or.inr (Or.inr (Or.inl c1))))]
      have hp1 := hT.in_ (k := p) (by omega)
      unfold f_X11_takesBegin_l46
      rw [a1, bnd_s, if_neg f8, if_pos (k106.mpr c1)]
      have hsp : ∀ nd, (pjoi T (p + 1)).1 = some nd → ar nd.1 ≠ 0 := fun nd hnd => by
        have : pjoi T (p + 1) = (some nd, (pjoi T (p + 1)).2) := Prod.ext hnd rfl
        have := (pjoi_len this).2.2.1
        unfold ar; rw [this]; decide
      obtain ⟨r2, g2, b1, b2, b3⟩ := mp_dig (n := n) (most := 3) hZ hT a2 (by omega) (by omega)
      rw [if_pos rfl] at b3
      rw [show f_X11_takesDigit n Z m (3 : Int32) g1 = _ from b1, bnd_s]
      have fin : MHd (bnd (f_X11_takesDigit n Z m (3 : Int32) g2) fun r23 g24 => f_X11_opensOne n Z m (106 : Int32) r2 r23 g24) g1 m len T O S (pjoi T (p + 1)) := by
        refine MHd.pre ?_ b2
        unfold pjoi
        cases h1 : tDig T (p + 1) 4 with
        | none =>
          rw [show tDig T (p + 1) (3 + 1) = none from h1] at b3
          obtain ⟨r3, g3, d1, d2, d3⟩ := mp_dig (n := n) (most := 3) hZ hT b3 (by omega) (by omega)
          rw [if_neg (by omega)] at d3
          rw [show f_X11_takesDigit n Z m (3 : Int32) g2 = _ from d1, bnd_s]
          refine MHd.pre ?_ d2
          obtain ⟨g4, e1, e2, e3, e4⟩ := mp_open (n := n) (x1 := (106 : Int32)) (x2 := r2) (x3 := r3) hZ hT d3 hO (by omega)
          exact ⟨g4, e1, e2, e4 (by omega)⟩
        | some a =>
          rw [show tDig T (p + 1) (3 + 1) = some a from h1] at b3
          obtain ⟨b3, b4⟩ := b3
          obtain ⟨q1, q2⟩ := tdig_some h1
          have hp2 := hT.in_ q2
          obtain ⟨r3, g3, d1, d2, d3⟩ := mp_dig (n := n) (most := 3) hZ hT b4 (by omega) (by omega)
          rw [if_pos rfl] at d3
          rw [show f_X11_takesDigit n Z m (3 : Int32) g2 = _ from d1, bnd_s]
          refine MHd.pre ?_ d2
          dsimp only
          cases h2 : tDig T (p + 1 + 1) 4 with
          | none =>
            rw [show tDig T (p + 1 + 1) (3 + 1) = none from h2] at d3
            obtain ⟨g4, e1, e2, e3, e4⟩ := mp_open (n := n) (x1 := (106 : Int32)) (x2 := r2) (x3 := r3) hZ hT d3 hO (by omega)
            exact ⟨g4, e1, e2, e4 (by omega)⟩
          | some c =>
            rw [show tDig T (p + 1 + 1) (3 + 1) = some c from h2] at d3
            obtain ⟨d3, d4⟩ := d3
            obtain ⟨q3, q4⟩ := tdig_some h2
            have hp3 := hT.in_ q4
            obtain ⟨g4, e1, e2, e3, e4⟩ := mp_open (n := n) (x1 := (106 : Int32)) (x2 := r2) (x3 := r3) hZ hT d4 hO (by omega)
            refine ⟨g4, e1, e2, ?_⟩
            dsimp only
            by_cases h40 : T (p + 1 + 2) = 40
            · rw [if_pos h40]; exact e3 ⟨rfl, h40⟩ (4, a, c) rfl b3 d3
            · rw [if_neg h40]; exact e4 fun z => h40 z.2
      have e3 : (bnd (f_X11_takesDigit n Z m (3 : Int32) g2) fun r23 g24 => bnd (f_X11_opensOne n Z m (106 : Int32) r2 r23 g24) fun r26 g27 => some ((0 : Int32), g27)) = bnd (bnd (f_X11_takesDigit n Z m (3 : Int32) g2) fun r23 g24 => f_X11_opensOne n Z m (106 : Int32) r2 r23 g24) fun _ g36 => some ((0 : Int32), g36) := by
        cases f_X11_takesDigit n Z m (3 : Int32) g2 with
        | none => rfl
        | some x => rfl
      rw [e3]
      exact op fin hsp
    · rw [if_neg c1]
      by_cases c2 : T p = 112
      · rw [if_pos c2, good (Or.inr (Or.inr (Or.inl c2)))]
        have hp1 := hT.in_ (k := p) (by omega)
        unfold f_X11_takesBegin_l46
        rw [a1, bnd_s, if_neg f8, if_neg (fun z => c1 (k106.mp z)), if_pos (k112.mpr c2)]
        refine op ?_ fun nd hnd => by
          have : pprj T 4 (p + 1) 0 0 = (some nd, (pprj T 4 (p + 1) 0 0).2) := Prod.ext hnd rfl
          have := (pprj_len 4 (p + 1) 0 0 _ nd rfl ⟨by decide, fun i hi => by omega⟩ this).2.2.1
          unfold ar; rw [this]; decide
        refine (mp_prj (n := n) hZ hT hO 4 (p + 1) 0 0 n g1 rfl (by omega) (by omega) a2 ⟨by decide, fun i hi => by omega⟩).cong ?_
        unfold f_X11_takesProject
        rw [grd_t hZ.k]; rfl
      · rw [if_neg c2]
        by_cases c3 : T p = 115
        · rw [if_pos c3, good (Or.inr (Or.inl c3))]
          have hp1 := hT.in_ (k := p) (by omega)
          unfold f_X11_takesBegin_l46
          rw [a1, bnd_s, if_neg f8, if_neg (fun z => c1 (k106.mp z)), if_neg (fun z => c2 (k112.mp z)), if_pos (k115.mpr c3)]
          exact op (mp_sel hZ hT a2 hO (by omega)) fun nd hnd => by
            have : psel T (p + 1) = (some nd, (psel T (p + 1)).2) := Prod.ext hnd rfl
            have := (psel_len this).2.2.1
            unfold ar
            rcases this with z | z <;> rw [z] <;> decide
        · rw [if_neg c3]
          by_cases c4 : T p = 117
          · rw [if_pos c4, good (Or.inr (Or.inr (Or.inr (Or.inr c4))))]
            have hp1 := hT.in_ (k := p) (by omega)
            unfold f_X11_takesBegin_l46
            rw [a1, bnd_s, if_neg f8, if_neg (fun z => c1 (k106.mp z)), if_neg (fun z => c2 (k112.mp z)), if_neg (fun z => c3 (k115.mp z)), if_pos (k117.mpr c4)]
            obtain ⟨g4, e1, e2, e3, e4⟩ := mp_open (n := n) (x1 := (117 : Int32)) (x2 := (0 : Int32)) (x3 := (0 : Int32)) hZ hT a2 hO (by omega)
            refine op (r := if T (p + 1) = 40 then (some (5, 0, 0), p + 2) else (none, p + 1)) ⟨g4, e1, e2, ?_⟩ fun nd hnd => by
              by_cases h40 : T (p + 1) = 40
              · rw [if_pos h40] at hnd; cases hnd; decide
              · rw [if_neg h40] at hnd; cases hnd
            by_cases h40 : T (p + 1) = 40
            · rw [if_pos h40]; exact e3 ⟨rfl, h40⟩ (5, 0, 0) rfl rfl rfl
            · rw [if_neg h40]; exact e4 fun z => h40 z.2
          · rw [if_neg c4]
            obtain ⟨g2, b1, b2, b3⟩ := mp_takes (n := n) (x := 0) hZ h (by omega) (by omega)
            rw [if_neg (by omega), if_neg (by omega)] at b2
            refine ⟨0, g2, ?_, b3, b2.fail⟩
            unfold f_X11_takesBegin
            rw [grd_t hZ.k, hh, bnd_s, show f_X11_in n Z (hI (T p)) (65 : Int32) (68 : Int32) g = _ from hin, bnd_s, if_neg (show ¬ (65 ≤ T p ∧ T p ≤ 68) by omega), if_pos rfl, if_neg (fun z => c3 (k115.mp z)), if_neg (fun z => c2 (k112.mp z)), if_neg (fun z => c1 (k106.mp z)), if_neg (fun z => c4 (k117.mp z))]
            unfold f_X11_takesBegin_l46
            rw [show f_X11_takes n Z m (0 : Int32) g = _ from b1, bnd_s, if_pos b2.fail.2]
/-- a query within another one is whole -/
theorem mp_close {n : Nat} {Z : Zt} {m len p k : Nat} {nd : Nd} {T : Nat → Nat} {O : List (Nd × Nat)} {S : List Nd} {g : Mem} (hZ : MZ Z m) (hT : TOk T len) (h : MP g m len T p 1 ((nd, k) :: O) S) (hN : NOk nd) (hO : O.length < 60) (hS : S.length < 60) (hp : p ≤ 60) (hk : k < ar nd.1) : ∃ r g', f_X11_closes n Z m g = some (r, g') ∧ Ch (pP m) g g' ∧ if ar nd.1 = 2 ∧ k = 0 then (if T p = 44 then r = 0 ∧ MP g' m len T (p + 1) 1 ((nd, 1) :: O) S else MFail g' m p) else (if T p = 41 then r = 1 ∧ MP g' m len T (p + 1) 1 O (S ++ [nd]) else MFail g' m p) := by
  have hl60 := hT.1
  have ht := hT.lt p
  have har := (own_ar nd).2.2
  obtain ⟨b1, b2, b3, b4, b5, b6, b7, b8, o1, o2, o3, o4, o5⟩ := id h
  have b8 : gI g m 17 = nI (O.length + 1) := b8
  obtain ⟨g1, hg1⟩ : ∃ g1, g1 = sI g (m + 11) O.length (nI (k + 1)) := ⟨_, rfl⟩
  have hF : Ch (fun b j => b = m + 11 ∧ j = O.length) g g1 := hg1 ▸ Ch.rfl.sI ⟨rfl, rfl⟩
  have hF' : Ch (pP m) g g1 := hF.mono fun b j q => by unfold pP; omega
  have hM : MP g1 m len T p 1 ((nd, k + 1) :: O) S := ⟨b1.ch hF ⟨by omega, fun j => by omega⟩, (hF.i (by omega)).trans b2, b3, (hF.i (by omega)).trans b4, b5, (hF.i (by omega)).trans b6, fun i hi => (b7 i hi).ch hF fun b hb => by omega, (hF.i (by omega)).trans b8, (hF.i (by omega)).trans o1, (hF.i (by omega)).trans o2, (hF.i (by omega)).trans o3, by rw [hg1, gI_sI, if_pos ⟨rfl, rfl⟩], o5.ch hF fun b j q1 q2 q3 => by omega⟩
  have e1 : nI (O.length + 1) - (1 : Int32) = nI O.length := subN (a := O.length + 1) (b := 1) (by omega)
  have o1' : gI g1 (m + 8) O.length = nI (kc nd.1) := (hF.i (by omega)).trans o1
  have hh := mp_here (n := n) hZ hT hM
  have e0 : f_X11_closes n Z m g = (if nI (kc nd.1) = (106 : Int32) then (f_X11_closes_l44 n Z m (nI O.length) (1 : Int32) g1) else (if nI (kc nd.1) = (117 : Int32) then (f_X11_closes_l44 n Z m (nI O.length) (1 : Int32) g1) else (f_X11_closes_l44 n Z m (nI O.length) (0 : Int32) g1))) := by
    unfold f_X11_closes
    simp (disch := omega) only [hZ.k, hZ.f16, hZ.k16, hZ.l16, hZ.f13, hZ.k13, hZ.l13, drf_s, grd_t, grd_true, b8, e1, inr_eq, clamp, o4, nI_1, ← hg1, o1']
  have e79 : ∃ r g', f_X11_closes_l79 n Z m (nI O.length) g1 = some (r, g') ∧ Ch (pP m) g1 g' ∧ (if T p = 41 then r = 1 ∧ MP g' m len T (p + 1) 1 O (S ++ [nd]) else MFail g' m p) := by
    have k41 : hI (T p) = 41 ↔ T p = 41 := hI_eq (x := 41) ht (by omega) (by omega)
    obtain ⟨x, hx, hxv, hxe⟩ : ∃ x : Nat, x ≤ 1 ∧ (x = 1 ↔ T p = 41) ∧ f_X11_closes_l79 n Z m (nI O.length) g1 = f_X11_closes_l94 n Z m (nI O.length) (nI x) m g1 := by
      unfold f_X11_closes_l79
      rw [hh, bnd_s]
      by_cases hc : T p = 41
      · exact ⟨1, by omega, by simp [hc], by rw [if_pos (k41.mpr hc)]; rfl⟩
      · exact ⟨0, by omega, by simp [hc], by rw [if_neg (fun z => hc (k41.mp z))]; rfl⟩
    rw [hxe]
    obtain ⟨g2, a1, a2, a3⟩ := mp_takes (n := n) (x := x) hZ hM hx (by omega)
    obtain ⟨F, p', hMP, hFx, hpx⟩ : ∃ F p', MP g2 m len T p' F ((nd, k + 1) :: O) S ∧ (T p = 41 → F = 1 ∧ p' = p + 1) ∧ (T p ≠ 41 → F = 0 ∧ p' = p) := ⟨_, _, a2, fun z => by rw [if_pos ⟨rfl, hxv.mpr z⟩, if_pos ⟨rfl, hxv.mpr z⟩]; exact ⟨rfl, rfl⟩, fun z => by rw [if_neg (fun y => z (hxv.mp y.2)), if_neg (fun y => z (hxv.mp y.2))]; exact ⟨rfl, rfl⟩⟩
    obtain ⟨c1, c2, c3, c4, c5, c6, c7, c8, d1, d2, d3, d4, d5⟩ := id hMP
    have c8 : gI g2 m 17 = nI (O.length + 1) := c8
    obtain ⟨g3, hg3⟩ : ∃ g3, g3 = sI g2 m 17 (nI O.length) := ⟨_, rfl⟩
    have hF3 : Ch (fun b j => b = m ∧ j = 17) g2 g3 := hg3 ▸ Ch.rfl.sI ⟨rfl, rfl⟩
    obtain ⟨g4, f1, f2, f3, f4, f5, f6⟩ := mp_emit (n := n) (x1 := nI (kc nd.1)) (x2 := nI nd.2.1) (x3 := nI (mSec nd)) (g := g3) hZ ((hF3.i (by omega)).trans c6) hS
    have d1' : gI g3 (m + 8) O.length = nI (kc nd.1) := (hF3.i (by omega)).trans d1
    have d2' : gI g3 (m + 9) O.length = nI nd.2.1 := (hF3.i (by omega)).trans d2
    have d3' : gI g3 (m + 10) O.length = nI (mSec nd) := (hF3.i (by omega)).trans d3
    refine ⟨1, g4, ?_, (a3.trans (hF3.mono fun b j q => by unfold pP; omega)).trans (f2.mono fun b j q => by unfold pP; omega), ?_⟩
    · unfold f_X11_closes_l94
      rw [a1, bnd_s]
      simp (disch := omega) only [hZ.f13, hZ.k13, hZ.l13, hZ.f14, hZ.k14, hZ.l14, hZ.f15, hZ.k15, hZ.l15, drf_s, grd_t, grd_true, inr_eq, clamp, c8, e1, ← hg3, d1', d2', d3', f1, bnd_s]
    · by_cases hc : T p = 41
      · rw [if_pos hc]
        obtain ⟨q1, q2⟩ := hFx hc
        subst q1; subst q2
        have hMP3 : MP g3 m len T (p + 1) 1 O S := ⟨c1.ch hF3 ⟨by omega, fun j => by omega⟩, (hF3.i (by omega)).trans c2, c3, (hF3.i (by omega)).trans c4, c5, (hF3.i (by omega)).trans c6, fun i hi => (c7 i hi).ch hF3 fun b hb => by omega, by rw [hg3, gI_sI, if_pos ⟨rfl, rfl⟩], d5.ch hF3 fun b j q1 q2 q3 => by omega⟩
        exact ⟨rfl, hMP3.emit hS f2 f3 f4 f5 f6⟩
      · rw [if_neg hc]
        obtain ⟨q1, q2⟩ := hpx hc
        subst q1; subst q2
        exact ⟨((f2.i (by omega)).trans (hF3.i (by omega))).trans c2, ((f2.i (by omega)).trans (hF3.i (by omega))).trans c4⟩
  have two : ar nd.1 = 2 → ∃ r g', f_X11_closes_l44 n Z m (nI O.length) (1 : Int32) g1 = some (r, g') ∧ Ch (pP m) g1 g' ∧ if ar nd.1 = 2 ∧ k = 0 then (if T p = 44 then r = 0 ∧ MP g' m len T (p + 1) 1 ((nd, 1) :: O) S else MFail g' m p) else (if T p = 41 then r = 1 ∧ MP g' m len T (p + 1) 1 O (S ++ [nd]) else MFail g' m p) := by
    intro ha
    have k44 : hI (T p) = 44 ↔ T p = 44 := hI_eq (x := 44) ht (by omega) (by omega)
    have d4 : gI g1 (m + 11) O.length = nI (k + 1) := hM.2.2.2.2.2.2.2.2.2.2.2.1
    have e44 : f_X11_closes_l44 n Z m (nI O.length) (1 : Int32) g1 = if nI (k + 1) = (1 : Int32) then (bnd (f_X11_here n Z m g1) (fun r23 g24 => if r23 = (44 : Int32) then (bnd (f_X11_takes n Z m (1 : Int32) g24) (fun r30 g31 => some ((0 : Int32), g31))) else (bnd (f_X11_takes n Z m (0 : Int32) g24) (fun r27 g28 => some ((0 : Int32), g28))))) else (f_X11_closes_l79 n Z m (nI O.length) g1) := by
      unfold f_X11_closes_l44
      rw [if_neg i10]
      simp (disch := omega) only [hZ.f16, hZ.k16, hZ.l16, drf_s, grd_t, grd_true, inr_eq, clamp, d4]
    rw [e44]
    by_cases hk0 : k = 0
    · subst hk0
      rw [if_pos (show nI (0 + 1) = (1 : Int32) from rfl), hh, bnd_s]
      by_cases h44 : T p = 44
      · rw [if_pos (k44.mpr h44)]
        obtain ⟨g2, a1, a2, a3⟩ := mp_takes (n := n) (x := 1) hZ hM (by omega) (by omega)
        rw [if_pos (show 1 = 1 ∧ 1 = 1 from ⟨rfl, rfl⟩), if_pos (show 1 = 1 ∧ 1 = 1 from ⟨rfl, rfl⟩)] at a2
        exact ⟨0, g2, by rw [show f_X11_takes n Z m (1 : Int32) g1 = _ from a1, bnd_s], a3, by rw [if_pos (show ar nd.1 = 2 ∧ 0 = 0 from ⟨ha, rfl⟩), if_pos h44]; exact ⟨rfl, a2⟩⟩
      · rw [if_neg (fun z => h44 (k44.mp z))]
        obtain ⟨g2, a1, a2, a3⟩ := mp_takes (n := n) (x := 0) hZ hM (by omega) (by omega)
        rw [if_neg (by omega), if_neg (by omega)] at a2
        exact ⟨0, g2, by rw [show f_X11_takes n Z m (0 : Int32) g1 = _ from a1, bnd_s], a3, by rw [if_pos (show ar nd.1 = 2 ∧ 0 = 0 from ⟨ha, rfl⟩), if_neg h44]; exact a2.fail⟩
    · rw [if_neg (show ¬ nI (k + 1) = (1 : Int32) from fun z => by have := (neq (b := 1) (by omega) (by omega)).mp z; omega)]
      simp only [if_neg (show ¬ (ar nd.1 = 2 ∧ k = 0) from fun z => hk0 z.2)]
      exact e79
  rw [e0]
  have fin : ∀ {f : Option (Int32 × Mem)} {Q : Int32 → Mem → Prop}, (∃ r g', f = some (r, g') ∧ Ch (pP m) g1 g' ∧ Q r g') → ∃ r g', f = some (r, g') ∧ Ch (pP m) g g' ∧ Q r g' := by
    intro f Q ⟨r, g', a, b, c⟩
    exact ⟨r, g', a, hF'.trans b, c⟩
  have hkd : nd.1 = 4 ∧ ar nd.1 = 2 ∨ nd.1 = 5 ∧ ar nd.1 = 2 ∨ nd.1 ≠ 4 ∧ nd.1 ≠ 5 ∧ ar nd.1 ≠ 2 := by
    have : ∀ k, k ≤ 5 → k = 4 ∧ ar k = 2 ∨ k = 5 ∧ ar k = 2 ∨ k ≠ 4 ∧ k ≠ 5 ∧ ar k ≠ 2 := by decide
    exact this nd.1 hN.k
  rcases hkd with ⟨q1, q2⟩ | ⟨q1, q2⟩ | ⟨q1, q2, q3⟩
  · rw [if_pos (show nI (kc nd.1) = (106 : Int32) by rw [q1]; decide)]
    exact fin (two q2)
  · rw [if_neg (show ¬ nI (kc nd.1) = (106 : Int32) by rw [q1]; decide), if_pos (show nI (kc nd.1) = (117 : Int32) by rw [q1]; decide)]
    exact fin (two q2)
  · have hk106 : ¬ nI (kc nd.1) = (106 : Int32) ∧ ¬ nI (kc nd.1) = (117 : Int32) := by
      have : ∀ k, k ≤ 5 → k ≠ 4 → k ≠ 5 → ¬ nI (kc k) = (106 : Int32) ∧ ¬ nI (kc k) = (117 : Int32) := by decide
      exact this nd.1 hN.k q1 q2
    rw [if_neg hk106.1, if_neg hk106.2]
    simp only [if_neg (show ¬ (ar nd.1 = 2 ∧ k = 0) from fun z => q3 z.1)]
    have e44 : f_X11_closes_l44 n Z m (nI O.length) (0 : Int32) g1 = f_X11_closes_l79 n Z m (nI O.length) g1 := by
      unfold f_X11_closes_l44
      rw [if_pos rfl]
    rw [e44]
    exact fin e79

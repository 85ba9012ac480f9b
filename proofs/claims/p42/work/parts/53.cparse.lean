/-! READING A TEXT: what is read at a place. T: codes, 0 behind the end -/
def tDig (T : Nat → Nat) (p lim : Nat) : Option Nat := if 48 ≤ T p ∧ T p < 48 + lim then some (T p - 48) else none
def psel (T : Nat → Nat) (p : Nat) : Option Nd × Nat := match tDig T p 4 with
  | none => (none, p)
  | some a => if T (p + 1) = 126 then (match tDig T (p + 2) 4 with
      | none => (none, p + 2)
      | some c => if T (p + 3) = 40 then (some (2, a, c), p + 4) else (none, p + 3))
    else if T (p + 1) = 61 then (match tDig T (p + 2) 10 with
      | none => (none, p + 2)
      | some c => if T (p + 3) = 40 then (some (1, a, c), p + 4) else (none, p + 3))
    else (none, p + 1)
def pend (T : Nat → Nat) (p cnt nd : Nat) : Option Nd × Nat := if 0 < cnt ∧ T p = 40 then (some (3, cnt, nd), p + 1) else (none, p)
def pprj (T : Nat → Nat) : Nat → Nat → Nat → Nat → Option Nd × Nat
  | 0, p, cnt, nd => pend T p cnt nd
  | f + 1, p, cnt, nd => match tDig T p 4 with
    | some d => pprj T f (p + 1) (cnt + 1) (nd * 10 + d)
    | none => pend T p cnt nd
def pjoi (T : Nat → Nat) (p : Nat) : Option Nd × Nat := match tDig T p 4 with
  | none => (none, p)
  | some a => match tDig T (p + 1) 4 with
    | none => (none, p + 1)
    | some c => if T (p + 2) = 40 then (some (4, a, c), p + 3) else (none, p + 2)
def phead (T : Nat → Nat) (p : Nat) : Option Nd × Nat :=
  if 65 ≤ T p ∧ T p < 69 then (some (0, T p - 65, 0), p + 1)
  else if T p = 106 then pjoi T (p + 1)
  else if T p = 112 then pprj T 4 (p + 1) 0 0
  else if T p = 115 then psel T (p + 1)
  else if T p = 117 then (if T (p + 1) = 40 then (some (5, 0, 0), p + 2) else (none, p + 1))
  else (none, p)
/-- a text of some length -/
def TOk (T : Nat → Nat) (len : Nat) : Prop := len ≤ 60 ∧ (∀ k, k < len → 32 ≤ T k ∧ T k < 127) ∧ ∀ k, len ≤ k → T k = 0
theorem TOk.lt {T : Nat → Nat} {len : Nat} (h : TOk T len) (k : Nat) : T k < 128 := by
  by_cases hk : k < len
  · have := (h.2.1 k hk).2; omega
  · rw [h.2.2 k (by omega)]; omega
theorem TOk.in_ {T : Nat → Nat} {len k : Nat} (h : TOk T len) (hk : T k ≠ 0) : k < len := by
  by_cases q : k < len
  · exact q
  · exact absurd (h.2.2 k (by omega)) hk
/-- what the class sees -/
def cI (t : Nat) : Int32 := if t = 0 then -1 else nI t
theorem cI_eq {t x : Nat} (ht : t < 128) (hx : 0 < x) (hx2 : x < 128) : cI t = nI x ↔ t = x := by
  unfold cI
  by_cases h : t = 0
  · subst h
    rw [if_pos rfl]
    refine ⟨fun q => ?_, fun q => by omega⟩
    have h1 : nI x < 0 := by rw [← q]; decide
    exact absurd h1 (fun z => nI_nlt (a := x) (b := 0) (Nat.zero_le _) (by omega) z)
  · rw [if_neg h]; exact neq (by omega) (by omega)
theorem cI_65 : ∀ t, t < 128 → ((cI t < (65 : Int32)) ↔ t < 65) := by decide +kernel
theorem cI_69 : ∀ t, t < 128 → (((69 : Int32) ≤ cI t) ↔ 69 ≤ t) := by decide +kernel
theorem cI_48 : ∀ t, t < 128 → ((cI t - (48 : Int32) < 0) ↔ t < 48) := by decide +kernel
theorem cI_sub {t x : Nat} (hx : x ≤ t) (h0 : t ≠ 0) : cI t - nI x = nI (t - x) := by
  unfold cI
  rw [if_neg h0]; exact subN hx
/-- the class under way -/
def CP (g : Mem) (q l len : Nat) (T : Nat → Nat) (p : Nat) (due : List Nat) (pre : List Nd) : Prop := gP g q 5 = some l ∧ QIs g q pre ∧ gI g q 7 = nI p ∧ p < 100 ∧ gI g q 8 = nI due.length ∧ WsIs g (q + 5) due ∧ LIs g l len T
theorem CP.adv {g : Mem} {q l len p p' : Nat} {T : Nat → Nat} {due : List Nat} {pre : List Nd} (hd : l + 2 ≤ q ∨ q + 6 ≤ l) (h : CP g q l len T p due pre) (hp : p' < 100) : CP (sI g q 7 (nI p')) q l len T p' due pre := by
  obtain ⟨h1, h2, h3, h4, h5, h6, h7⟩ := h
  have hF : Ch (fun b j => b = q ∧ j = 7) g (sI g q 7 (nI p')) := Ch.rfl.sI ⟨rfl, rfl⟩
  refine ⟨h1, ?_, by rw [gI_sI, if_pos ⟨rfl, rfl⟩], hp, (hF.i (by omega)).trans h5, h6.ch hF fun j _ => by omega, ?_⟩
  · refine ⟨(hF.i (by omega)).trans h2.1, h2.2.1, fun k hk => ?_⟩
    have := h2.2.2 k hk
    exact ⟨(hF.i (by omega)).trans this.1, (hF.i (by omega)).trans this.2.1, (hF.i (by omega)).trans this.2.2⟩
  · exact ⟨(hF.i (by omega)).trans h7.1, fun k hk => (hF.i (by omega)).trans (h7.2 k hk)⟩
theorem cp_next {n : Nat} {Z : Zt} {q l len p : Nat} {T : Nat → Nat} {due : List Nat} {pre : List Nd} {g : Mem} (hZ : QZ Z q) (hL : LZ Z l 60) (hT : TOk T len) (h : CP g q l len T p due pre) : f_X6_nextCode n Z q g = some (cI (T p), g) := by
  obtain ⟨h1, h2, h3, h4, h5, h6, h7⟩ := h
  have hl := hT.1
  have e : f_X3_codeAt n Z l (nI p) g = some (cI (T p), g) := by
    unfold f_X3_codeAt
    rw [grd_t hL.1, if_neg (show ¬ nI p < 0 from fun z => nI_nlt (a := p) (b := 0) (Nat.zero_le _) (by omega) z), h7.1]
    unfold cI
    by_cases hp : p < len
    · have ht := (hT.2.1 p hp).1
      have hc := h7.2 p hp
      rw [if_neg (fun z => by have := (nle (by omega) (by omega)).mp z; omega), if_neg (by omega)]
      simp (disch := omega) only [hL.2.1, hL.2.2.1, hL.2.2.2, drf_s, grd_t, grd_true, inr_eq, clamp, hc]
      rw [if_pos (show nI p < Int32.ofNat 60 from (nlt (a := p) (b := 60) (by omega) (by omega)).mpr (by omega))]
    · rw [if_pos ((nle (by omega) (by omega)).mpr (by omega)), if_pos (hT.2.2 p (by omega))]
  unfold f_X6_nextCode
  rw [grd_t hZ.k, nam_s, h1, if_neg (by intro z; cases z), nam_s, drf_s, h3, e, bnd_s]
theorem cp_take {n : Nat} {Z : Zt} {q l len p x : Nat} {T : Nat → Nat} {due : List Nat} {pre : List Nd} {g : Mem} (hZ : QZ Z q) (hL : LZ Z l 60) (hT : TOk T len) (h : CP g q l len T p due pre) (hx : 0 < x) (hx2 : x < 128) : f_X6_take n Z q (nI x) g = if T p = x then some (1, sI g q 7 (nI (p + 1))) else some (0, g) := by
  unfold f_X6_take
  rw [grd_t hZ.k, cp_next hZ hL hT h, bnd_s, h.2.2.1, nI_1]
  by_cases hc : T p = x
  · rw [if_pos ((cI_eq (hT.lt p) hx hx2).mpr hc), if_pos hc]
  · rw [if_neg (fun z => hc ((cI_eq (hT.lt p) hx hx2).mp z)), if_neg hc]
theorem cp_dig {n : Nat} {Z : Zt} {q l len p lim : Nat} {T : Nat → Nat} {due : List Nat} {pre : List Nd} {g : Mem} (hZ : QZ Z q) (hL : LZ Z l 60) (hT : TOk T len) (h : CP g q l len T p due pre) (hl : lim ≤ 10) : f_X6_takeDigit n Z q (nI lim) g = match tDig T p lim with
    | some d => some (nI d, sI g q 7 (nI (p + 1)))
    | none => some (-1, g) := by
  unfold f_X6_takeDigit
  have ht := hT.lt p
  rw [grd_t hZ.k, cp_next hZ hL hT h, bnd_s, h.2.2.1, nI_1]
  unfold tDig
  by_cases hc : 48 ≤ T p
  · rw [if_neg (fun z => by have := (cI_48 _ ht).mp z; omega), show cI (T p) - (48 : Int32) = nI (T p - 48) from cI_sub (x := 48) hc (by omega)]
    by_cases h2 : T p < 48 + lim
    · rw [if_pos ((nlt (by omega) (by omega)).mpr (by omega)), if_pos ⟨hc, h2⟩]
    · rw [if_neg (fun z => by have := (nlt (by omega) (by omega)).mp z; omega), if_neg (fun z => h2 z.2)]
  · rw [if_pos ((cI_48 _ ht).mpr (by omega)), if_neg (fun z => hc z.1)]

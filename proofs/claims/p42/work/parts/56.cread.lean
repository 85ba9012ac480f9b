/-! READING A WHOLE TEXT -/
def prun (T : Nat → Nat) : Nat → Nat → Bool → List (Nd × Nat) → List Nd → List Nd → Nat × Option (List Nd × List Nd)
  | 0, p, _, _, _, _ => (p, none)
  | f + 1, p, false, O, pre, S => match phead T p with
    | (none, p') => (p', none)
    | (some nd, p') => if ar nd.1 = 0 then prun T f p' true O (pre ++ [nd]) (S ++ [nd]) else prun T f p' false ((nd, 0) :: O) (pre ++ [nd]) S
  | _ + 1, p, true, [], pre, S => (p, some (pre, S))
  | f + 1, p, true, (nd, h) :: O, pre, S => if ar nd.1 = 2 ∧ h = 0 then (if T p = 44 then prun T f (p + 1) false ((nd, 1) :: O) pre S else (p, none)) else (if T p = 41 then prun T f (p + 1) true O pre (S ++ [nd]) else (p, none))
def dueO : List (Nd × Nat) → List Nat
  | [] => []
  | (nd, h) :: O => (if ar nd.1 = 2 ∧ h = 0 then [44, 113, 41] else [41]) ++ dueO O
def dueW (w : Bool) (O : List (Nd × Nat)) : List Nat := if w then dueO O else 113 :: dueO O
theorem dueO_ok (O : List (Nd × Nat)) : DOk (dueO O) := by
  induction O with
  | nil => intro x hx; cases hx
  | cons e O ih =>
    obtain ⟨nd, h⟩ := e
    intro x hx
    rcases List.mem_append.mp hx with hx | hx
    · by_cases hc : ar nd.1 = 2 ∧ h = 0
      · rw [if_pos hc] at hx
        simp only [List.mem_cons, List.not_mem_nil, or_false] at hx
        omega
      · rw [if_neg hc] at hx
        simp only [List.mem_cons, List.not_mem_nil, or_false] at hx
        omega
    · exact ih x hx
/-- what a head takes -/
theorem pend_len {T : Nat → Nat} {p cnt nd p' : Nat} {r : Nd} (hc : cnt ≤ 4) (hP : PDg cnt nd) (h : pend T p cnt nd = (some r, p')) : NOk r ∧ r = (3, cnt, nd) ∧ p' = p + 1 ∧ T p ≠ 0 := by
  unfold pend at h
  by_cases hq : 0 < cnt ∧ T p = 40
  · rw [if_pos hq] at h
    cases h
    exact ⟨Or.inr (Or.inr (Or.inr (Or.inl ⟨rfl, hq.1, hc, hP.1, hP.2⟩))), rfl, rfl, by omega⟩
  · rw [if_neg hq] at h; cases h
theorem pprj_len {T : Nat → Nat} : ∀ (f p cnt nd p' : Nat) (r : Nd), cnt + f = 4 → PDg cnt nd → pprj T f p cnt nd = (some r, p') → NOk r ∧ p' + cnt = p + r.2.1 + 1 ∧ r.1 = 3 ∧ T (p' - 1) ≠ 0 ∧ cnt ≤ r.2.1 := by
  intro f
  induction f with
  | zero =>
    intro p cnt nd p' r hf hP h
    obtain ⟨a, b, c, d⟩ := pend_len (by omega) hP h
    subst b
    refine ⟨a, by show p' + cnt = p + cnt + 1; omega, rfl, ?_, Nat.le_refl _⟩
    rw [c]; exact d
  | succ f ih =>
    intro p cnt nd p' r hf hP h
    have h : (match tDig T p 4 with
      | some d => pprj T f (p + 1) (cnt + 1) (nd * 10 + d)
      | none => pend T p cnt nd) = (some r, p') := h
    cases h1 : tDig T p 4 with
    | none =>
      rw [h1] at h
      obtain ⟨a, b, c, d⟩ := pend_len (by omega) hP h
      subst b
      refine ⟨a, by show p' + cnt = p + cnt + 1; omega, rfl, ?_, Nat.le_refl _⟩
      rw [c]; exact d
    | some d =>
      rw [h1] at h
      obtain ⟨hd, _⟩ := tdig_some h1
      obtain ⟨a, b, c, e, i⟩ := ih (p + 1) (cnt + 1) _ p' r (by omega) (hP.snoc hd) h
      exact ⟨a, by omega, c, e, by omega⟩
theorem psel_len {T : Nat → Nat} {p p' : Nat} {r : Nd} (h : psel T p = (some r, p')) : NOk r ∧ p' = p + 4 ∧ (r.1 = 1 ∨ r.1 = 2) ∧ T (p' - 1) ≠ 0 := by
  unfold psel at h
  cases h1 : tDig T p 4 with
  | none => rw [h1] at h; cases h
  | some a =>
    rw [h1] at h
    obtain ⟨ha, _⟩ := tdig_some h1
    dsimp only at h
    by_cases c1 : T (p + 1) = 126
    · rw [if_pos c1] at h
      cases h2 : tDig T (p + 2) 4 with
      | none => rw [h2] at h; cases h
      | some c =>
        rw [h2] at h
        obtain ⟨hc, _⟩ := tdig_some h2
        dsimp only at h
        by_cases c2 : T (p + 3) = 40
        · rw [if_pos c2] at h
          cases h
          exact ⟨Or.inr (Or.inr (Or.inl ⟨rfl, ha, hc⟩)), rfl, Or.inr rfl, by show T (p + 3) ≠ 0; omega⟩
        · rw [if_neg c2] at h; cases h
    · rw [if_neg c1] at h
      by_cases c1 : T (p + 1) = 61
      · rw [if_pos c1] at h
        cases h2 : tDig T (p + 2) 10 with
        | none => rw [h2] at h; cases h
        | some c =>
          rw [h2] at h
          obtain ⟨hc, _⟩ := tdig_some h2
          dsimp only at h
          by_cases c2 : T (p + 3) = 40
          · rw [if_pos c2] at h
            cases h
            exact ⟨Or.inr (Or.inl ⟨rfl, ha, hc⟩), rfl, Or.inl rfl, by show T (p + 3) ≠ 0; omega⟩
          · rw [if_neg c2] at h; cases h
      · rw [if_neg c1] at h; cases h
theorem pjoi_len {T : Nat → Nat} {p p' : Nat} {r : Nd} (h : pjoi T p = (some r, p')) : NOk r ∧ p' = p + 3 ∧ r.1 = 4 ∧ T (p' - 1) ≠ 0 := by
  unfold pjoi at h
  cases h1 : tDig T p 4 with
  | none => rw [h1] at h; cases h
  | some a =>
    rw [h1] at h
    obtain ⟨ha, _⟩ := tdig_some h1
    dsimp only at h
    cases h2 : tDig T (p + 1) 4 with
    | none => rw [h2] at h; cases h
    | some c =>
      rw [h2] at h
      obtain ⟨hc, _⟩ := tdig_some h2
      dsimp only at h
      by_cases c2 : T (p + 2) = 40
      · rw [if_pos c2] at h
        cases h
        exact ⟨Or.inr (Or.inr (Or.inr (Or.inr (Or.inl ⟨rfl, ha, hc⟩)))), rfl, rfl, by show T (p + 2) ≠ 0; omega⟩
      · rw [if_neg c2] at h; cases h
theorem phead_len {T : Nat → Nat} {len p p' : Nat} {r : Nd} (hT : TOk T len) (h : phead T p = (some r, p')) : NOk r ∧ p' + ar r.1 = p + own r ∧ p' ≤ len ∧ p + ar r.1 ≤ p' + (if ar r.1 = 0 then 1 else 0) ∧ p < p' := by
  have hlen : T (p' - 1) ≠ 0 → 0 < p' → p' ≤ len := fun q1 q2 => by have := hT.in_ q1; omega
  unfold phead at h
  by_cases c1 : 65 ≤ T p ∧ T p < 69
  · rw [if_pos c1] at h
    cases h
    exact ⟨Or.inl ⟨rfl, by show T p - 65 < 4; omega, rfl⟩, rfl, hlen (by show T p ≠ 0; omega) (by omega), by show p + 0 ≤ _; omega, by omega⟩
  · rw [if_neg c1] at h
    by_cases c2 : T p = 106
    · rw [if_pos c2] at h
      obtain ⟨a, b, c, d⟩ := pjoi_len h
      obtain ⟨k, x, y⟩ := r
      have c : k = 4 := c
      subst c
      exact ⟨a, by show p' + 2 = p + 6; omega, hlen d (by omega), by show p + 2 ≤ p' + 0; omega, by omega⟩
    · rw [if_neg c2] at h
      by_cases c3 : T p = 112
      · rw [if_pos c3] at h
        obtain ⟨a, b, c, d, e⟩ := pprj_len 4 (p + 1) 0 0 p' r rfl ⟨by decide, fun i hi => by omega⟩ h
        obtain ⟨k, x, y⟩ := r
        have c : k = 3 := c
        subst c
        have b : p' + 0 = p + 1 + x + 1 := b
        exact ⟨a, by show p' + 1 = p + (3 + x); omega, hlen d (by omega), by show p + 1 ≤ p' + 0; omega, by omega⟩
      · rw [if_neg c3] at h
        by_cases c4 : T p = 115
        · rw [if_pos c4] at h
          obtain ⟨a, b, c, d⟩ := psel_len h
          obtain ⟨k, x, y⟩ := r
          have c : k = 1 ∨ k = 2 := c
          rcases c with c | c <;> subst c <;>
          exact ⟨a, by show p' + 1 = p + 6; omega, hlen d (by omega), by show p + 1 ≤ p' + 0; omega, by omega⟩
        · rw [if_neg c4] at h
          by_cases c5 : T p = 117
          · rw [if_pos c5] at h
            by_cases c6 : T (p + 1) = 40
            · rw [if_pos c6] at h
              cases h
              exact ⟨Or.inr (Or.inr (Or.inr (Or.inr (Or.inr ⟨rfl, rfl, rfl⟩)))), by show p + 2 + 2 = p + 4; omega, hlen (by show T (p + 1) ≠ 0; omega) (by omega), by show p + 2 ≤ p + 2 + 0; omega, by omega⟩
            · rw [if_neg c6] at h; cases h
          · rw [if_neg c5] at h; cases h
/-- how reading ends (the class) -/
def CRd (f : Option (Int32 × Mem)) (g : Mem) (q len : Nat) (r : Nat × Option (List Nd × List Nd)) : Prop := ∃ g', Fr q (q + 6) g g' ∧ gI g' q 7 = nI r.1 ∧ match r.2 with
  | some x => QIs g' q x.1 ∧ f = some (if r.1 = len then 1 else 0, g') ∧ gI g' q 9 = if r.1 = len then 1 else 0
  | none => f = some (0, g') ∧ gI g' q 9 = 0
theorem CRd.pre {f : Option (Int32 × Mem)} {g g1 : Mem} {q len : Nat} {r : Nat × Option (List Nd × List Nd)} (h : CRd f g1 q len r) (hF : Fr q (q + 6) g g1) : CRd f g q len r := by
  obtain ⟨g', a, b⟩ := h
  exact ⟨g', hF.trans a, b⟩
theorem CRd.cong {f f' : Option (Int32 × Mem)} {g : Mem} {q len : Nat} {r : Nat × Option (List Nd × List Nd)} (h : CRd f g q len r) (e : f' = f) : CRd f' g q len r := e ▸ h
theorem crd_107 {n : Nat} {Z : Zt} {q : Nat} {g : Mem} (hZ : QZ Z q) : f_X6_read_l107 n Z q q g = some (0, sI g q 9 0) := by
  unfold f_X6_read_l107
  rw [grd_t hZ.k, gI_sI, if_pos ⟨rfl, rfl⟩, grd_t (Or.inl rfl)]
theorem crd_fail {n : Nat} {Z : Zt} {q l len fu p : Nat} {due : List Nat} {pre : List Nd} {T : Nat → Nat} {x3 : Int32} {g : Mem} (hZ : QZ Z q) (h : CP g q l len T p due pre) : CRd (f_X6_read_l30 n Z q (fu + 1) l 0 x3 g) g q len (p, none) := by
  have e : f_X6_read_l80 n Z q l 0 g = some (0, sI g q 9 0) := by
    unfold f_X6_read_l80
    rw [if_pos rfl]; exact crd_107 hZ
  refine ⟨sI g q 9 0, Fr.rfl.sI (by omega) (by omega), ?_, ?_, by rw [gI_sI, if_pos ⟨rfl, rfl⟩]⟩
  · rw [gI_sI, if_neg (by omega)]; exact h.2.2.1
  · rw [f_X6_read_l30]
    by_cases h1 : (60 : Int32) < x3
    · rw [if_pos h1]; exact e
    · rw [if_neg h1, if_pos rfl]; exact e
theorem crd_l30 {n : Nat} {Z : Zt} {q l len : Nat} {T : Nat → Nat} (hn : 100 ≤ n) (hZ : QZ Z q) (hL : LZ Z l 60) (hT : TOk T len) (hd : l + 2 ≤ q ∨ q + 6 ≤ l) : ∀ (f p st fu : Nat) (w : Bool) (O : List (Nd × Nat)) (pre S : List Nd) (g : Mem), f + st = 62 → st ≤ p → p ≤ len → f < fu → CP g q l len T p (dueW w O) pre → pre.length ≤ p → (w = false → pre.length < 60) → 2 * (dueW w O).length ≤ 2 + 3 * p → CRd (f_X6_read_l30 n Z q fu l 1 (nI st) g) g q len (prun T f p w O pre S) := by
  have hl60 := hT.1
  intro f
  induction f with
  | zero => intro p st fu w O pre S g hf hst hp hfu; omega
  | succ f ih =>
    intro p st fu w O pre S g hf hst hp hfu h hpre hp6 hdue
    obtain ⟨fu, rfl⟩ : ∃ q, fu = q + 1 := ⟨fu - 1, by omega⟩
    obtain ⟨fu, rfl⟩ : ∃ q, fu = q + 1 := ⟨fu - 1, by omega⟩
    have hs60 : ¬ (60 : Int32) < nI st := fun z => by have := (nlt (a := 60) (by omega) (by omega)).mp z; omega
    cases w with
    | false =>
      have h : CP g q l len T p (113 :: dueO O) pre := h
      have hdue : 2 * (113 :: dueO O).length ≤ 2 + 3 * p := hdue
      rw [List.length_cons] at hdue
      have h8 := h.2.2.2.2.1
      rw [List.length_cons] at h8
      obtain ⟨g1, a1, a2, a3⟩ := cp_pop (n := n) hZ hd h (Or.inr (Or.inr rfl)) (by omega)
      have hh := cp_head (n := n) (by omega) hZ hL hT hd a2 (by omega) (hp6 rfl)
      have e0 : f_X6_read_l30 n Z q (fu + 1 + 1) l 1 (nI st) g = bnd (f_X6_readHead n Z q g1) fun r14 g15 => f_X6_read_l30 n Z q (fu + 1) l r14 (nI (st + 1)) g15 := by
        rw [f_X6_read_l30, if_neg hs60, if_neg i10, h8, if_neg (show ¬ nI ((dueO O).length + 1) ≤ 0 from fun z => by have := (nle (b := 0) (by omega) (by omega)).mp z; omega), a1, bnd_s, if_pos (show nI 113 = 113 from rfl), nI_1]
      rw [e0]
      show CRd _ _ _ _ (match phead T p with
        | (none, p') => (p', none)
        | (some nd, p') => if ar nd.1 = 0 then prun T f p' true O (pre ++ [nd]) (S ++ [nd]) else prun T f p' false ((nd, 0) :: O) (pre ++ [nd]) S)
      obtain ⟨g2, b1, b2⟩ := hh
      refine CRd.pre ?_ (a3.trans b1)
      cases hph : phead T p with
      | mk r p' =>
        rw [hph] at b2
        cases r with
        | none =>
          obtain ⟨c1, c2⟩ := b2
          rw [c1, bnd_s]
          exact crd_fail hZ c2
        | some nd =>
          obtain ⟨c0, c1, c2⟩ := b2
          obtain ⟨k1, k2, k3, k4, k5⟩ := phead_len hT hph
          rw [c1, bnd_s]
          have hpl : (pre ++ [nd]).length = pre.length + 1 := by rw [List.length_append]; rfl
          show CRd _ _ _ _ (if ar nd.1 = 0 then prun T f p' true O (pre ++ [nd]) (S ++ [nd]) else prun T f p' false ((nd, 0) :: O) (pre ++ [nd]) S)
          rcases ar_cases nd with ha | ha | ha
          · rw [if_pos ha]
            refine ih p' (st + 1) (fu + 1) true O _ _ g2 (by omega) (by omega) k3 (by omega) ?_ (by rw [hpl]; omega) (fun z => by cases z) ?_
            · have : dueNd nd = [] := by unfold dueNd; rw [if_pos ha]
              rw [this] at c2; exact c2
            · show 2 * (dueO O).length ≤ _; omega
          · rw [if_neg (by omega)]
            rw [if_neg (by omega)] at k4
            have hown : 4 ≤ own nd := by
              have : nd.1 ≠ 0 ∧ nd.1 ≠ 4 ∧ nd.1 ≠ 5 := ar1 ha
              unfold own
              rw [if_neg this.1]
              by_cases h3 : nd.1 = 3
              · rw [if_pos h3]
                rcases k1 with z | z | z | z | z | z <;> omega
              · rw [if_neg h3, if_neg this.2.2]; omega
            refine ih p' (st + 1) (fu + 1) false ((nd, 0) :: O) _ _ g2 (by omega) (by omega) k3 (by omega) ?_ (by rw [hpl]; omega) (fun _ => by rw [hpl]; omega) ?_
            · have e1 : dueNd nd = [113, 41] := by unfold dueNd; rw [if_neg (by omega), if_pos ha]
              have e2 : dueW false ((nd, 0) :: O) = [113, 41] ++ dueO O := by
                show 113 :: ((if ar nd.1 = 2 ∧ 0 = 0 then [44, 113, 41] else [41]) ++ dueO O) = _
                rw [if_neg (by omega)]; rfl
              rw [e1] at c2; rw [e2]; exact c2
            · show 2 * (113 :: ((if ar nd.1 = 2 ∧ 0 = 0 then [44, 113, 41] else [41]) ++ dueO O)).length ≤ _
              rw [if_neg (by omega)]
              simp only [List.length_cons, List.length_append, List.length_nil]
              omega
          · rw [if_neg (by omega)]
            rw [if_neg (by omega)] at k4
            refine ih p' (st + 1) (fu + 1) false ((nd, 0) :: O) _ _ g2 (by omega) (by omega) k3 (by omega) ?_ (by rw [hpl]; omega) (fun _ => by rw [hpl]; omega) ?_
            · have e1 : dueNd nd = [113, 44, 113, 41] := by unfold dueNd; rw [if_neg (by omega), if_neg (by omega)]
              have e2 : dueW false ((nd, 0) :: O) = [113, 44, 113, 41] ++ dueO O := by
                show 113 :: ((if ar nd.1 = 2 ∧ 0 = 0 then [44, 113, 41] else [41]) ++ dueO O) = _
                rw [if_pos ⟨ha, rfl⟩]; rfl
              rw [e1] at c2; rw [e2]; exact c2
            · show 2 * (113 :: ((if ar nd.1 = 2 ∧ 0 = 0 then [44, 113, 41] else [41]) ++ dueO O)).length ≤ _
              rw [if_pos ⟨ha, rfl⟩]
              simp only [List.length_cons, List.length_append, List.length_nil]
              omega
    | true =>
      cases O with
      | nil =>
        have h : CP g q l len T p [] pre := h
        have h8 : gI g q 8 = 0 := h.2.2.2.2.1
        have h7 := h.2.2.1
        show CRd _ _ _ _ (p, some (pre, S))
        have hL1 := h.2.2.2.2.2.2.1
        have e80 : f_X6_read_l30 n Z q (fu + 1 + 1) l 1 (nI st) g = f_X6_read_l80 n Z q l 1 g := by
          rw [f_X6_read_l30, if_neg hs60, if_neg i10, h8, if_pos (by decide)]
        have elen : f_X3_length n Z l g = some (nI len, g) := by unfold f_X3_length; rw [grd_t hL.1, hL1]
        rw [e80]
        unfold f_X6_read_l80
        rw [if_neg i10, h8, if_pos rfl, elen, bnd_s, h7]
        by_cases hpl : p = len
        · rw [if_pos (by rw [hpl]), gI_sI, if_pos ⟨rfl, rfl⟩, grd_t (Or.inr rfl)]
          refine ⟨sI g q 9 1, Fr.rfl.sI (by omega) (by omega), by rw [gI_sI, if_neg (by omega)]; exact h7, ?_, by rw [if_pos hpl], by rw [if_pos hpl, gI_sI, if_pos ⟨rfl, rfl⟩]⟩
          exact h.2.1.ch (Ch.rfl.sI (P := fun b j => b = q ∧ j = 9) ⟨rfl, rfl⟩) ⟨by omega, fun b j hb => by omega⟩
        · rw [if_neg (fun z => hpl ((neq (by omega) (by omega)).mp z)), crd_107 hZ]
          refine ⟨sI g q 9 0, Fr.rfl.sI (by omega) (by omega), by rw [gI_sI, if_neg (by omega)]; exact h7, ?_, by rw [if_neg hpl], by rw [if_neg hpl, gI_sI, if_pos ⟨rfl, rfl⟩]⟩
          exact h.2.1.ch (Ch.rfl.sI (P := fun b j => b = q ∧ j = 9) ⟨rfl, rfl⟩) ⟨by omega, fun b j hb => by omega⟩
      | cons e O =>
        obtain ⟨nd, hs⟩ := e
        have key : ∀ (x : Nat) (rest : List Nat) (w' : Bool) (O' : List (Nd × Nat)) (S' : List Nd), (x = 41 ∨ x = 44 ∨ x = 113) → x ≠ 113 → dueW true ((nd, hs) :: O) = x :: rest → rest = dueW w' O' → (∀ y, prun T (f + 1) p true ((nd, hs) :: O) pre S = y → y = if T p = x then prun T f (p + 1) w' O' pre S' else (p, none)) → CRd (f_X6_read_l30 n Z q (fu + 1 + 1) l 1 (nI st) g) g q len (prun T (f + 1) p true ((nd, hs) :: O) pre S) := by
          intro x rest w' O' S' hx hx3 e1 e2 e3
          rw [e3 _ rfl]
          rw [e1] at h hdue
          rw [List.length_cons] at hdue
          have h8 := h.2.2.2.2.1
          rw [List.length_cons] at h8
          obtain ⟨g1, a1, a2, a3⟩ := cp_pop (n := n) hZ hd h hx (by omega)
          have ht := cp_take (n := n) (x := x) hZ hL hT a2 (by omega) (by omega)
          have e0 : f_X6_read_l30 n Z q (fu + 1 + 1) l 1 (nI st) g = bnd (f_X6_take n Z q (nI x) g1) fun r11 g12 => f_X6_read_l30 n Z q (fu + 1) l r11 (nI (st + 1)) g12 := by
            rw [f_X6_read_l30, if_neg hs60, if_neg i10, h8, if_neg (show ¬ nI (rest.length + 1) ≤ 0 from fun z => by have := (nle (b := 0) (by omega) (by omega)).mp z; omega), a1, bnd_s, if_neg (show ¬ nI x = 113 from fun z => hx3 ((neq (b := 113) (by omega) (by omega)).mp z)), nI_1]
          rw [e0, ht]
          refine CRd.pre ?_ a3
          by_cases hc : T p = x
          · rw [if_pos hc, if_pos hc, bnd_s]
            have hpl := hT.in_ (k := p) (by omega)
            refine CRd.pre (g1 := sI g1 q 7 (nI (p + 1))) ?_ Fr7
            have hC := a2.step (n := n) hT hd (show T p ≠ 0 by omega)
            rw [e2] at hC hdue
            exact ih (p + 1) (st + 1) (fu + 1) w' O' pre S' _ (by omega) (by omega) (by omega) (by omega) hC (by omega) (fun _ => by omega) (by omega)
          · rw [if_neg hc, if_neg hc, bnd_s]
            exact crd_fail hZ a2
        by_cases hc : ar nd.1 = 2 ∧ hs = 0
        · refine key 44 ([113, 41] ++ dueO O) false ((nd, 1) :: O) S (Or.inr (Or.inl rfl)) (by omega) ?_ ?_ ?_
          · show (if ar nd.1 = 2 ∧ hs = 0 then [44, 113, 41] else [41]) ++ dueO O = _
            rw [if_pos hc]; rfl
          · show _ = 113 :: ((if ar nd.1 = 2 ∧ 1 = 0 then [44, 113, 41] else [41]) ++ dueO O)
            rw [if_neg (by omega)]; rfl
          · intro y hy
            rw [← hy, prun, if_pos hc]
        · refine key 41 (dueO O) true O (S ++ [nd]) (Or.inl rfl) (by omega) ?_ rfl ?_
          · show (if ar nd.1 = 2 ∧ hs = 0 then [44, 113, 41] else [41]) ++ dueO O = _
            rw [if_neg hc]; rfl
          · intro y hy
            rw [← hy, prun, if_neg hc]
def prunT (T : Nat → Nat) : Nat × Option (List Nd × List Nd) := prun T 62 0 false [] [] []
/-- read -/
theorem c_read {n : Nat} {Z : Zt} {q l len : Nat} {T : Nat → Nat} {g : Mem} (hn : 100 ≤ n) (hZ : QZ Z q) (hL : LZ Z l 60) (hT : TOk T len) (hd : l + 2 ≤ q ∨ q + 6 ≤ l) (h : LIs g l len T) : CRd (f_X6_read n Z q l g) g q len (prunT T) := by
  obtain ⟨g0, hg0⟩ : ∃ g0, g0 = sI (sI (sI (sP g q 5 (some l)) q 6 (0 : Int32)) q 7 (0 : Int32)) q 8 (0 : Int32) := ⟨_, rfl⟩
  have hF : Ch (fun b j => b = q) g g0 := by
    rw [hg0]
    exact Ch.sI (Ch.sI (Ch.sI (Ch.sP (P := fun b _ => b = q) Ch.rfl (Eq.refl q)) (Eq.refl q)) (Eq.refl q)) (Eq.refl q)
  have hC : CP g0 q l len T 0 [] [] := by
    refine ⟨?_, ⟨?_, by decide, fun k hk => absurd hk (Nat.not_lt_zero _)⟩, ?_, by omega, ?_, trivial, h.ch hF fun b j hb => by omega⟩
    · rw [hg0]; simp only [gP_sI, gP_sP, and_self, if_true]
    · rw [hg0]; simp (disch := omega) only [gI_sI, gI_sP, if_pos, if_neg, true_and, and_true, and_self, ↓reduceIte]; rfl
    · rw [hg0]; simp (disch := omega) only [gI_sI, gI_sP, if_pos, if_neg, true_and, and_true, and_self, ↓reduceIte]; rfl
    · rw [hg0]; simp (disch := omega) only [gI_sI, gI_sP, if_pos, if_neg, true_and, and_true, and_self, ↓reduceIte]; rfl
  obtain ⟨g1, a1, a2, a3⟩ := cp_push (n := n) (x := 113) hZ hd hC (Or.inr (Or.inr rfl)) (by decide)
  have hFr : Fr q (q + 6) g g0 := hg0 ▸ (((Fr.rfl.sP (by omega) (by omega)).sI (by omega) (by omega)).sI (by omega) (by omega)).sI (by omega) (by omega)
  refine CRd.pre ?_ (hFr.trans a3)
  refine (crd_l30 (n := n) hn hZ hL hT hd 62 0 0 n false [] [] [] g1 rfl (Nat.le_refl _) (Nat.zero_le _) (by omega) a2 (Nat.le_refl _) (fun _ => by decide) (by decide)).cong ?_
  unfold f_X6_read
  rw [grd_t hZ.k, ← hg0]
  show bnd (f_X6_push n Z q (nI 113) g0) _ = _
  rw [a1, bnd_s]
  rfl

/-! STATES AFTER ACTIONS -/
theorem phead_tab {T : Nat → Nat} {p p' : Nat} {r : Nd} (h : phead T p = (some r, p')) (h0 : r.1 = 0) : T p = 65 + r.2.1 := by
  unfold phead at h
  by_cases c1 : 65 ≤ T p ∧ T p < 69
  · rw [if_pos c1] at h
    cases h
    show T p = 65 + (T p - 65); omega
  · rw [if_neg c1] at h
    by_cases c2 : T p = 106
    · rw [if_pos c2] at h
      obtain ⟨a, b, c, d⟩ := pjoi_len h; omega
    · rw [if_neg c2] at h
      by_cases c3 : T p = 112
      · rw [if_pos c3] at h
        obtain ⟨a, b, c, d, e⟩ := pprj_len 4 (p + 1) 0 0 p' r rfl ⟨by decide, fun i hi => by omega⟩ h
        omega
      · rw [if_neg c3] at h
        by_cases c4 : T p = 115
        · rw [if_pos c4] at h
          obtain ⟨a, b, c, d⟩ := psel_len h; omega
        · rw [if_neg c4] at h
          by_cases c5 : T p = 117
          · rw [if_pos c5] at h
            by_cases c6 : T (p + 1) = 40
            · rw [if_pos c6] at h
              cases h
              exact absurd h0 (by decide)
            · rw [if_neg c6] at h; cases h
          · rw [if_neg c5] at h; cases h
def TabIn (T : Nat → Nat) (L : List Nd) : Prop := ∀ x ∈ L, x.1 = 0 → ∃ q, T q = 65 + x.2.1
theorem prun_tab {T : Nat → Nat} : ∀ (f p : Nat) (w : Bool) (O : List (Nd × Nat)) (pre S : List Nd) (p' : Nat) (pre' S' : List Nd), TabIn T pre → prun T f p w O pre S = (p', some (pre', S')) → TabIn T pre' := by
  intro f
  induction f with
  | zero => intro p w O pre S p' pre' S' _ h; cases h
  | succ f ih =>
    intro p w O pre S p' pre' S' hN h
    cases w with
    | false =>
      have h : (match phead T p with
        | (none, p') => (p', none)
        | (some nd, p') => if ar nd.1 = 0 then prun T f p' true O (pre ++ [nd]) (S ++ [nd]) else prun T f p' false ((nd, 0) :: O) (pre ++ [nd]) S) = (p', some (pre', S')) := h
      cases hph : phead T p with
      | mk r p1 =>
        rw [hph] at h
        cases r with
        | none => cases h
        | some nd =>
          have h : (if ar nd.1 = 0 then prun T f p1 true O (pre ++ [nd]) (S ++ [nd]) else prun T f p1 false ((nd, 0) :: O) (pre ++ [nd]) S) = (p', some (pre', S')) := h
          have hN' : TabIn T (pre ++ [nd]) := fun x hx h0 => by
            rcases List.mem_append.mp hx with z | z
            · exact hN x z h0
            · have : x = nd := by simpa using z
              subst this; exact ⟨p, phead_tab hph h0⟩
          by_cases ha : ar nd.1 = 0
          · rw [if_pos ha] at h; exact ih _ _ _ _ _ _ _ _ hN' h
          · rw [if_neg ha] at h; exact ih _ _ _ _ _ _ _ _ hN' h
    | true =>
      cases O with
      | nil =>
        have h : (p, some (pre, S)) = (p', some (pre', S')) := h
        cases h
        exact hN
      | cons e O =>
        obtain ⟨nd, k⟩ := e
        have h : (if ar nd.1 = 2 ∧ k = 0 then (if T p = 44 then prun T f (p + 1) false ((nd, 1) :: O) pre S else (p, none)) else (if T p = 41 then prun T f (p + 1) true O pre (S ++ [nd]) else (p, none))) = (p', some (pre', S')) := h
        by_cases hc : ar nd.1 = 2 ∧ k = 0
        · rw [if_pos hc] at h
          by_cases ht : T p = 44
          · rw [if_pos ht] at h; exact ih _ _ _ _ _ _ _ _ hN h
          · rw [if_neg ht] at h; cases h
        · rw [if_neg hc] at h
          by_cases ht : T p = 41
          · rw [if_pos ht] at h; exact ih _ _ _ _ _ _ _ _ hN h
          · rw [if_neg ht] at h; cases h
/-- a table that a query names occurs in it -/
theorem Prs.occ {b : Nat → Nat} {pre : List Nd} (h : Prs b pre) {x : Nd} (hx : x ∈ pre) (h0 : x.1 = 0) : occ b x.2.1 = true := by
  obtain ⟨S, e⟩ := h
  obtain ⟨q, hq⟩ := prun_tab 62 0 false [] [] [] _ _ _ (fun x hx => absurd hx List.not_mem_nil) e x hx h0
  unfold tq at hq
  by_cases z : q < b 84
  · rw [if_pos z] at hq; exact hasC_iff.mpr ⟨q, z, hq⟩
  · rw [if_neg z] at hq; omega
theorem BOk.width {b : Nat → Nat} {t w : Nat} (hb : BOk b) (ht : t < 4) (h1 : 1 ≤ w) (h2 : w ≤ 3) (hr : hasR b t = false) : BOk (up b t w) := by
  obtain ⟨a1, a2, a3, a4⟩ := hb
  refine ⟨fun s hs => ?_, fun s hs => ?_, by rw [up_ne (by omega)]; exact a3, fun k hk => ?_⟩
  · by_cases q : s = t
    · rw [q, up_eq]; exact ⟨h1, h2⟩
    · rw [up_ne q]; exact a1 s hs
  · obtain ⟨c1, c2, c3, c4, c5, c6⟩ := a2 s hs
    rw [up_ne (by omega), up_ne (by omega), up_ne (by omega), up_ne (by omega), up_ne (by omega)]
    refine ⟨c1, c2, c3, c4, fun z => ?_, c6⟩
    have hne : b (4 + 5 * s) - 1 ≠ t := fun e => by
      have : hasR b t = true := hasR_iff.mpr ⟨s, hs, by omega⟩
      rw [hr] at this; cases this
    rw [up_ne hne]; exact c5 z
  · rw [up_ne (by omega)] at hk ⊢; exact a4 k hk
theorem BOk.place {b : Nat → Nat} {t tab v : Nat} (hb : BOk b) (ht : t < 16) (htab : tab < 4) (hv : v < 10 ^ b tab) : BOk (setRow b t (tab + 1) v 1 100 0) := by
  obtain ⟨a1, a2, a3, a4⟩ := hb
  refine ⟨fun s hs => by rw [setRow_lo hs]; exact a1 s hs, fun s hs => ?_, by rw [setRow_hi ht (by omega)]; exact a3, fun k hk => ?_⟩
  · obtain ⟨c1, c2, c3, c4, c5, c6⟩ := a2 s hs
    rw [setRow_4, setRow_5, setRow_6, setRow_7, setRow_8]
    by_cases q : s = t
    · simp only [if_pos q]
      refine ⟨by omega, by omega, by omega, by omega, fun _ => ?_, fun z => absurd z (by omega)⟩
      rw [show tab + 1 - 1 = tab by omega, setRow_lo htab]; exact hv
    · simp only [if_neg q]
      refine ⟨c1, c2, c3, c4, fun z => ?_, c6⟩
      rw [setRow_lo (by omega)]; exact c5 z
  · rw [setRow_hi ht (by omega)] at hk ⊢; exact a4 k hk
theorem BOk.drop {b : Nat → Nat} {t : Nat} (hb : BOk b) (ht : t < 16) : BOk (setRow b t 0 0 0 0 0) := by
  obtain ⟨a1, a2, a3, a4⟩ := hb
  refine ⟨fun s hs => by rw [setRow_lo hs]; exact a1 s hs, fun s hs => ?_, by rw [setRow_hi ht (by omega)]; exact a3, fun k hk => ?_⟩
  · obtain ⟨c1, c2, c3, c4, c5, c6⟩ := a2 s hs
    rw [setRow_4, setRow_5, setRow_6, setRow_7, setRow_8]
    by_cases q : s = t
    · simp only [if_pos q]
      exact ⟨by omega, by omega, by omega, by omega, fun z => absurd rfl z, fun _ => ⟨trivial, trivial, trivial, trivial⟩⟩
    · simp only [if_neg q]
      refine ⟨c1, c2, c3, c4, fun z => ?_, c6⟩
      rw [setRow_lo (by omega)]; exact c5 z
  · rw [setRow_hi ht (by omega)] at hk ⊢; exact a4 k hk
theorem BOk.cost {b : Nat → Nat} {t c : Nat} (hb : BOk b) (ht : t < 16) (h0 : b (4 + 5 * t) ≠ 0) (hc : c ≤ 999) : BOk (up b (6 + 5 * t) c) := by
  obtain ⟨a1, a2, a3, a4⟩ := hb
  refine ⟨fun s hs => by rw [up_ne (by omega)]; exact a1 s hs, fun s hs => ?_, by rw [up_ne (by omega)]; exact a3, fun k hk => ?_⟩
  · obtain ⟨c1, c2, c3, c4, c5, c6⟩ := a2 s hs
    rw [up_ne (j := 4 + 5 * s) (by omega), up_ne (j := 5 + 5 * s) (by omega), up_ne (j := 7 + 5 * s) (by omega), up_ne (j := 8 + 5 * s) (by omega)]
    by_cases q : s = t
    · subst q
      rw [up_eq]
      exact ⟨c1, c2, hc, c4, fun z => by rw [up_ne (by omega)]; exact c5 z, fun z => absurd z h0⟩
    · rw [up_ne (by omega)]
      exact ⟨c1, c2, c3, c4, fun z => by rw [up_ne (by omega)]; exact c5 z, c6⟩
  · rw [up_ne (by omega)] at hk ⊢; exact a4 k hk
theorem BOk.trust {b : Nat → Nat} {t c : Nat} (hb : BOk b) (ht : t < 16) (h0 : b (4 + 5 * t) ≠ 0) (hc : c ≤ 100) : BOk (up b (7 + 5 * t) c) := by
  obtain ⟨a1, a2, a3, a4⟩ := hb
  refine ⟨fun s hs => by rw [up_ne (by omega)]; exact a1 s hs, fun s hs => ?_, by rw [up_ne (by omega)]; exact a3, fun k hk => ?_⟩
  · obtain ⟨c1, c2, c3, c4, c5, c6⟩ := a2 s hs
    rw [up_ne (j := 4 + 5 * s) (by omega), up_ne (j := 5 + 5 * s) (by omega), up_ne (j := 6 + 5 * s) (by omega), up_ne (j := 8 + 5 * s) (by omega)]
    by_cases q : s = t
    · subst q
      rw [up_eq]
      exact ⟨c1, c2, c3, hc, fun z => by rw [up_ne (by omega)]; exact c5 z, fun z => absurd z h0⟩
    · rw [up_ne (by omega)]
      exact ⟨c1, c2, c3, c4, fun z => by rw [up_ne (by omega)]; exact c5 z, c6⟩
  · rw [up_ne (by omega)] at hk ⊢; exact a4 k hk
theorem BOk.gone {b : Nat → Nat} {t c : Nat} (hb : BOk b) (ht : t < 16) (h0 : b (4 + 5 * t) ≠ 0) (hc : c ≤ 1) : BOk (up b (8 + 5 * t) c) := by
  obtain ⟨a1, a2, a3, a4⟩ := hb
  refine ⟨fun s hs => by rw [up_ne (by omega)]; exact a1 s hs, fun s hs => ?_, by rw [up_ne (by omega)]; exact a3, fun k hk => ?_⟩
  · obtain ⟨c1, c2, c3, c4, c5, c6⟩ := a2 s hs
    rw [up_ne (j := 4 + 5 * s) (by omega), up_ne (j := 5 + 5 * s) (by omega), up_ne (j := 6 + 5 * s) (by omega), up_ne (j := 7 + 5 * s) (by omega)]
    by_cases q : s = t
    · subst q
      rw [up_eq]
      exact ⟨c1, hc, c3, c4, fun z => by rw [up_ne (by omega)]; exact c5 z, fun z => absurd z h0⟩
    · rw [up_ne (by omega)]
      exact ⟨c1, c2, c3, c4, fun z => by rw [up_ne (by omega)]; exact c5 z, c6⟩
  · rw [up_ne (by omega)] at hk ⊢; exact a4 k hk
def setQ (b : Nat → Nat) (len : Nat) (T : Nat → Nat) : Nat → Nat := fun j => if j = 84 then len else if 85 ≤ j then T (j - 85) else b j
theorem setQ_lo {b : Nat → Nat} {len j : Nat} {T : Nat → Nat} (h : j < 84) : setQ b len T j = b j := by
  unfold setQ; rw [if_neg (by omega), if_neg (by omega)]
theorem setQ_84 {b : Nat → Nat} {len : Nat} {T : Nat → Nat} : setQ b len T 84 = len := if_pos rfl
theorem setQ_85 {b : Nat → Nat} {len k : Nat} {T : Nat → Nat} : setQ b len T (85 + k) = T k := by
  unfold setQ; rw [if_neg (by omega), if_pos (by omega), show 85 + k - 85 = k by omega]
theorem setQ_tq {b : Nat → Nat} {len : Nat} {T : Nat → Nat} (hT : TOk T len) : tq (setQ b len T) = T := funext fun k => by
  unfold tq
  rw [setQ_84, setQ_85]
  by_cases q : k < len
  · rw [if_pos q]
  · rw [if_neg q, hT.2.2 k (by omega)]
theorem BOk.setQ {b : Nat → Nat} {len : Nat} {T : Nat → Nat} (hb : BOk b) (hT : TOk T len) : BOk (setQ b len T) := by
  obtain ⟨a1, a2, a3, a4⟩ := hb
  refine ⟨fun s hs => by rw [setQ_lo (by omega)]; exact a1 s hs, fun s hs => ?_, by rw [setQ_84]; exact hT.1, fun k hk => ?_⟩
  · obtain ⟨c1, c2, c3, c4, c5, c6⟩ := a2 s hs
    rw [setQ_lo (by omega), setQ_lo (by omega), setQ_lo (by omega), setQ_lo (by omega), setQ_lo (by omega)]
    exact ⟨c1, c2, c3, c4, fun z => by rw [setQ_lo (by omega)]; exact c5 z, c6⟩
  · rw [setQ_84] at hk
    rw [setQ_85]
    have := hT.2.1 k hk; omega
theorem t0_ok : TOk (fun _ => 0) 0 := ⟨by omega, fun k hk => absurd hk (Nat.not_lt_zero _), fun _ _ => rfl⟩
theorem qv_setQ {b : Nat → Nat} {len : Nat} {T : Nat → Nat} {pre : List Nd} (hN : ∀ x ∈ pre, NOk x) : qv (setQ b len T) pre = qv b pre ∧ qw (setQ b len T) pre = qw b pre := by
  have hw : ∀ x ∈ pre, x.1 = 0 → setQ b len T x.2.1 = b x.2.1 := fun x hx h0 => setQ_lo (by have := hN x hx; unfold NOk at this; omega)
  exact ⟨qv_cong hw fun s hs => ⟨setQ_lo (by omega), setQ_lo (by omega)⟩, qw_cong hw⟩

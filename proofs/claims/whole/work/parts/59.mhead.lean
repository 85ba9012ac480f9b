/-- a head that opens something was read -/
def MH (g' : Mem) (m len : Nat) (T : Nat → Nat) (O : List (Nd × Nat)) (S : List Nd) (r : Option Nd × Nat) : Prop := match r.1 with
  | some nd => MP g' m len T r.2 1 ((nd, 0) :: O) S
  | none => MFail g' m r.2
def MHd (f : Option (Unit × Mem)) (g : Mem) (m len : Nat) (T : Nat → Nat) (O : List (Nd × Nat)) (S : List Nd) (r : Option Nd × Nat) : Prop := ∃ g', f = some ((), g') ∧ Ch (pP m) g g' ∧ MH g' m len T O S r
theorem MHd.pre {f : Option (Unit × Mem)} {g g1 : Mem} {m len : Nat} {T : Nat → Nat} {O : List (Nd × Nat)} {S : List Nd} {r : Option Nd × Nat} (h : MHd f g1 m len T O S r) (hF : Ch (pP m) g g1) : MHd f g m len T O S r := by
  obtain ⟨g', a, b, c⟩ := h
  exact ⟨g', a, hF.trans b, c⟩
theorem MHd.cong {f f' : Option (Unit × Mem)} {g : Mem} {m len : Nat} {T : Nat → Nat} {O : List (Nd × Nat)} {S : List Nd} {r : Option Nd × Nat} (h : MHd f g m len T O S r) (e : f' = f) : MHd f' g m len T O S r := e ▸ h
/-- the parenthesis that opens -/
theorem mh_open {n : Nat} {Z : Zt} {m len p : Nat} {T : Nat → Nat} {O : List (Nd × Nat)} {S : List Nd} {x1 x2 x3 : Int32} {nd : Nd} {g : Mem} (hZ : MZ Z m) (hT : TOk T len) (h : MP g m len T p 1 O S) (hO : O.length < 60) (hp : p < 99) (e1 : x1 = nI (kc nd.1)) (e2 : x2 = nI nd.2.1) (e3 : x3 = nI (mSec nd)) : MHd (bnd (f_X11_opensOne n Z m x1 x2 x3 g) fun _ g9 => some ((), g9)) g m len T O S (if T p = 40 then (some nd, p + 1) else (none, p)) := by
  obtain ⟨g', a, b, c, d⟩ := mp_open (n := n) (x1 := x1) (x2 := x2) (x3 := x3) hZ hT h hO hp
  refine ⟨g', by rw [a, bnd_s], b, ?_⟩
  by_cases hc : T p = 40
  · rw [if_pos hc]; exact c ⟨rfl, hc⟩ nd e1 e2 e3
  · rw [if_neg hc]; exact d fun z => hc z.2
theorem mh_fail {n : Nat} {Z : Zt} {m len p : Nat} {T : Nat → Nat} {O : List (Nd × Nat)} {S : List Nd} {x1 x2 x3 : Int32} {g : Mem} (hZ : MZ Z m) (hT : TOk T len) (h : MP g m len T p 0 O S) (hO : O.length < 60) (hp : p < 99) : MHd (bnd (f_X11_opensOne n Z m x1 x2 x3 g) fun _ g9 => some ((), g9)) g m len T O S (none, p) := by
  obtain ⟨g', a, b, c, d⟩ := mp_open (n := n) (x1 := x1) (x2 := x2) (x3 := x3) hZ hT h hO hp
  exact ⟨g', by rw [a, bnd_s], b, d fun z => by omega⟩
theorem sel_f45 {n : Nat} {Z : Zt} {m len p most : Nat} {T : Nat → Nat} {O : List (Nd × Nat)} {S : List Nd} {x1 x2 : Int32} {g : Mem} (hZ : MZ Z m) (hT : TOk T len) (h : MP g m len T p 0 O S) (hO : O.length < 60) (hp : p < 99) (hm : most ≤ 9) : MHd (f_X11_takesSelect_l45 n Z m x1 x2 (nI most) m g) g m len T O S (none, p) := by
  obtain ⟨r, g1, a, b, c⟩ := mp_dig (n := n) hZ hT h hm hp
  rw [if_neg (by decide)] at c
  refine MHd.pre ?_ b
  unfold f_X11_takesSelect_l45
  rw [a, bnd_s]
  by_cases hx : x2 = (61 : Int32)
  · rw [if_pos hx]; exact mh_fail hZ hT c hO hp
  · rw [if_neg hx]; exact mh_fail hZ hT c hO hp
theorem sel_f29 {n : Nat} {Z : Zt} {m len p x : Nat} {T : Nat → Nat} {O : List (Nd × Nat)} {S : List Nd} {x1 x2 : Int32} {F : Nat} {g : Mem} (hZ : MZ Z m) (hT : TOk T len) (h : MP g m len T p F O S) (hO : O.length < 60) (hp : p < 99) (hx : x ≤ 1) (hF : ¬ (F = 1 ∧ x = 1)) : MHd (f_X11_takesSelect_l29 n Z m x1 x2 (nI x) m g) g m len T O S (none, p) := by
  obtain ⟨g1, a, b, c⟩ := mp_takes (n := n) hZ h hx hp
  rw [if_neg hF, if_neg hF] at b
  refine MHd.pre ?_ c
  unfold f_X11_takesSelect_l29
  rw [a, bnd_s]
  by_cases hx : x2 = (61 : Int32)
  · rw [if_pos hx]; exact sel_f45 (most := 9) hZ hT b hO hp (by omega)
  · rw [if_neg hx]; exact sel_f45 (most := 3) hZ hT b hO hp (by omega)
theorem mp_sel {n : Nat} {Z : Zt} {m len p : Nat} {T : Nat → Nat} {O : List (Nd × Nat)} {S : List Nd} {g : Mem} (hZ : MZ Z m) (hT : TOk T len) (h : MP g m len T p 1 O S) (hO : O.length < 60) (hp : p ≤ 60) : MHd (f_X11_takesSelect n Z m g) g m len T O S (psel T p) := by
  have hl60 := hT.1
  obtain ⟨r, g1, a, b, c⟩ := mp_dig (n := n) (most := 3) hZ hT h (by omega) (by omega)
  rw [if_pos rfl] at c
  refine MHd.pre ?_ b
  unfold psel
  cases h1 : tDig T p 4 with
  | none =>
    rw [h1] at c
    have hh := mp_here (n := n) hZ hT c
    have ex : ∃ x : Nat, x ≤ 1 ∧ f_X11_takesSelect n Z m g = f_X11_takesSelect_l29 n Z m r (hI (T p)) (nI x) m g1 := by
      unfold f_X11_takesSelect
      rw [grd_t hZ.k, show f_X11_takesDigit n Z m (3 : Int32) g = _ from a, bnd_s, hh, bnd_s]
      by_cases q1 : hI (T p) = 61
      · exact ⟨1, by omega, by rw [if_pos q1]; rfl⟩
      · by_cases q2 : hI (T p) = 126
        · exact ⟨1, by omega, by rw [if_neg q1, if_pos q2]; rfl⟩
        · exact ⟨0, by omega, by rw [if_neg q1, if_neg q2]; rfl⟩
    obtain ⟨x, hx, e⟩ := ex
    rw [e]
    exact sel_f29 hZ hT c hO (by omega) hx (by omega)
  | some a1 =>
    rw [h1] at c
    obtain ⟨c1, c2⟩ := c
    obtain ⟨hd1, hd2⟩ := tdig_some h1
    have hp1 := hT.in_ hd2
    have ht := hT.lt (p + 1)
    have hh := mp_here (n := n) hZ hT c2
    have e0 : f_X11_takesSelect n Z m g = (if hI (T (p + 1)) = (61 : Int32) then (f_X11_takesSelect_l29 n Z m (nI a1) (hI (T (p + 1))) (nI 1) m g1) else (if hI (T (p + 1)) = (126 : Int32) then (f_X11_takesSelect_l29 n Z m (nI a1) (hI (T (p + 1))) (nI 1) m g1) else (f_X11_takesSelect_l29 n Z m (nI a1) (hI (T (p + 1))) (nI 0) m g1))) := by
      unfold f_X11_takesSelect
      rw [grd_t hZ.k, show f_X11_takesDigit n Z m (3 : Int32) g = _ from a, bnd_s, hh, bnd_s, c1]
      rfl
    rw [e0]
    have k61 : hI (T (p + 1)) = 61 ↔ T (p + 1) = 61 := hI_eq (x := 61) ht (by omega) (by omega)
    have k126 : hI (T (p + 1)) = 126 ↔ T (p + 1) = 126 := hI_eq (x := 126) ht (by omega) (by omega)
    dsimp only
    by_cases q1 : T (p + 1) = 126
    · rw [if_neg (fun z => by have := k61.mp z; omega), if_pos (k126.mpr q1), if_pos q1]
      have hp2 := hT.in_ (k := p + 1) (by omega)
      obtain ⟨g2, b1, b2, b3⟩ := mp_takes (n := n) (x := 1) hZ c2 (by omega) (by omega)
      rw [if_pos (show 1 = 1 ∧ 1 = 1 from ⟨rfl, rfl⟩), if_pos (show 1 = 1 ∧ 1 = 1 from ⟨rfl, rfl⟩)] at b2
      refine MHd.pre ?_ b3
      unfold f_X11_takesSelect_l29
      rw [b1, bnd_s, if_neg (fun z => by have := k61.mp z; omega)]
      unfold f_X11_takesSelect_l45
      obtain ⟨r3, g3, d1, d2, d3⟩ := mp_dig (n := n) (most := 3) hZ hT b2 (by omega) (by omega)
      rw [if_pos rfl] at d3
      rw [show f_X11_takesDigit n Z m (3 : Int32) g2 = _ from d1, bnd_s, if_neg (fun z => by have := k61.mp z; omega)]
      refine MHd.pre ?_ d2
      cases h2 : tDig T (p + 2) 4 with
      | none =>
        rw [show tDig T (p + 1 + 1) (3 + 1) = none from h2] at d3
        exact mh_fail hZ hT d3 hO (by omega)
      | some c3 =>
        rw [show tDig T (p + 1 + 1) (3 + 1) = some c3 from h2] at d3
        obtain ⟨e1, e2⟩ := tdig_some h2
        have hp3 := hT.in_ e2
        exact mh_open (nd := (2, a1, c3)) hZ hT d3.2 hO (by omega) rfl rfl d3.1
    · by_cases q2 : T (p + 1) = 61
      · rw [if_pos (k61.mpr q2), if_neg q1, if_pos q2]
        have hp2 := hT.in_ (k := p + 1) (by omega)
        obtain ⟨g2, b1, b2, b3⟩ := mp_takes (n := n) (x := 1) hZ c2 (by omega) (by omega)
        rw [if_pos (show 1 = 1 ∧ 1 = 1 from ⟨rfl, rfl⟩), if_pos (show 1 = 1 ∧ 1 = 1 from ⟨rfl, rfl⟩)] at b2
        refine MHd.pre ?_ b3
        unfold f_X11_takesSelect_l29
        rw [b1, bnd_s, if_pos (k61.mpr q2)]
        unfold f_X11_takesSelect_l45
        obtain ⟨r3, g3, d1, d2, d3⟩ := mp_dig (n := n) (most := 9) hZ hT b2 (by omega) (by omega)
        rw [if_pos rfl] at d3
        rw [show f_X11_takesDigit n Z m (9 : Int32) g2 = _ from d1, bnd_s, if_pos (k61.mpr q2)]
        refine MHd.pre ?_ d2
        cases h2 : tDig T (p + 2) 10 with
        | none =>
          rw [show tDig T (p + 1 + 1) (9 + 1) = none from h2] at d3
          exact mh_fail hZ hT d3 hO (by omega)
        | some c3 =>
          rw [show tDig T (p + 1 + 1) (9 + 1) = some c3 from h2] at d3
          obtain ⟨e1, e2⟩ := tdig_some h2
          have hp3 := hT.in_ e2
          exact mh_open (nd := (1, a1, c3)) hZ hT d3.2 hO (by omega) rfl rfl d3.1
      · rw [if_neg (fun z => q2 (k61.mp z)), if_neg (fun z => q1 (k126.mp z)), if_neg q1, if_neg q2]
        exact sel_f29 hZ hT c2 hO (by omega) (by omega) (by omega)
theorem b4_snoc {cnt nd d : Nat} (hd : d < 10) : b4 (cnt + 1) (nd * 10 + d) (cnt + 1) = 4 * b4 cnt nd cnt + d := by
  have h : ∀ i, i ≤ cnt → b4 (cnt + 1) (nd * 10 + d) i = b4 cnt nd i := by
    intro i
    induction i with
    | zero => intro _; rfl
    | succ i ih =>
      intro hi
      show 4 * b4 (cnt + 1) (nd * 10 + d) i + dg (cnt + 1) (nd * 10 + d) i = 4 * b4 cnt nd i + dg cnt nd i
      rw [ih (by omega), dg_snoc hd (by omega)]
  show 4 * b4 (cnt + 1) (nd * 10 + d) cnt + dg (cnt + 1) (nd * 10 + d) cnt = _
  rw [h cnt (Nat.le_refl _), dg_last hd]
theorem mp_prj {n : Nat} {Z : Zt} {m len : Nat} {T : Nat → Nat} {O : List (Nd × Nat)} {S : List Nd} (hZ : MZ Z m) (hT : TOk T len) (hO : O.length < 60) : ∀ (f p cnt nd fu : Nat) (g : Mem), cnt + f = 4 → f + 1 < fu → p ≤ 60 → MP g m len T p 1 O S → PDg cnt nd → MHd (f_X11_takesProject_l4 n Z m fu (nI cnt) (nI (b4 cnt nd cnt)) g) g m len T O S (pprj T f p cnt nd) := by
  have hl60 := hT.1
  have hend : ∀ (p cnt nd : Nat) (g : Mem), cnt ≤ 4 → 0 < cnt → p ≤ 60 → MP g m len T p 1 O S → MHd (f_X11_takesProject_l45 n Z m (nI cnt) (nI (b4 cnt nd cnt)) g) g m len T O S (pend T p cnt nd) := by
    intro p cnt nd g hc h0 hp h
    unfold f_X11_takesProject_l45 pend
    have := mh_open (n := n) (nd := (3, cnt, nd)) (x1 := (112 : Int32)) (x2 := nI cnt) (x3 := nI (b4 cnt nd cnt)) hZ hT h hO (by omega) rfl rfl rfl
    by_cases h1 : T p = 40
    · rw [if_pos ⟨h0, h1⟩]; rw [if_pos h1] at this; exact this
    · rw [if_neg (fun z => h1 z.2)]; rw [if_neg h1] at this; exact this
  intro f
  induction f with
  | zero =>
    intro p cnt nd fu g hcf hfu hp h hP
    obtain ⟨fu, rfl⟩ : ∃ q, fu = q + 1 := ⟨fu - 1, by omega⟩
    have hc4 : cnt = 4 := by omega
    subst hc4
    rw [f_X11_takesProject_l4, h.2.2.2.1, if_neg (show ¬ nI 1 = 0 by decide), if_pos (by decide)]
    exact hend p 4 nd g (by omega) (by omega) hp h
  | succ f ih =>
    intro p cnt nd fu g hcf hfu hp h hP
    obtain ⟨fu, rfl⟩ : ∃ q, fu = q + 1 := ⟨fu - 1, by omega⟩
    have ht := hT.lt p
    have k40 : hI (T p) = 40 ↔ T p = 40 := hI_eq (x := 40) ht (by omega) (by omega)
    have hdigs : ¬ (0 < cnt ∧ T p = 40) → MHd (f_X11_takesProject_l29 n Z (fun y0 y1 y => f_X11_takesProject_l4 n Z m fu y0 y1 y) m (nI cnt) (nI (b4 cnt nd cnt)) g) g m len T O S (pprj T (f + 1) p cnt nd) := by
      intro hnot
      obtain ⟨r, g1, a, b, c⟩ := mp_dig (n := n) (most := 3) hZ hT h (by omega) (by omega)
      rw [if_pos rfl] at c
      unfold f_X11_takesProject_l29
      rw [show f_X11_takesDigit n Z m (3 : Int32) g = _ from a, bnd_s, nI_1]
      refine MHd.pre ?_ b
      show MHd _ _ _ _ _ _ _ (match tDig T p 4 with
        | some d => pprj T f (p + 1) (cnt + 1) (nd * 10 + d)
        | none => pend T p cnt nd)
      cases h1 : tDig T p 4 with
      | none =>
        rw [show tDig T p (3 + 1) = none from h1] at c
        obtain ⟨fu, rfl⟩ : ∃ q, fu = q + 1 := ⟨fu - 1, by omega⟩
        have hpe : pend T p cnt nd = (none, p) := by unfold pend; rw [if_neg hnot]
        dsimp only
        rw [hpe, f_X11_takesProject_l4, c.2.2.2.1, if_pos (show nI 0 = 0 from rfl)]
        exact mh_fail hZ hT c hO (by omega)
      | some d =>
        rw [show tDig T p (3 + 1) = some d from h1] at c
        obtain ⟨c1, c2⟩ := c
        obtain ⟨e1, e2⟩ := tdig_some h1
        have hp1 := hT.in_ e2
        have hx : ((4 : Int32) * nI (b4 cnt nd cnt)) + r = nI (b4 (cnt + 1) (nd * 10 + d) (cnt + 1)) := by
          rw [b4_snoc (by omega), c1, ← nI_add, ← mIJ]; rfl
        dsimp only
        rw [hx]
        exact ih (p + 1) (cnt + 1) (nd * 10 + d) fu g1 (by omega) (by omega) (by omega) c2 (hP.snoc e1)
    have hh := mp_here (n := n) hZ hT h
    rw [f_X11_takesProject_l4, h.2.2.2.1, if_neg (show ¬ nI 1 = 0 by decide), if_neg (show ¬ (4 : Int32) ≤ nI cnt from fun z => by have := (nle (a := 4) (by omega) (by omega)).mp z; omega)]
    by_cases hc0 : cnt = 0
    · subst hc0
      rw [if_pos (show nI 0 = 0 from rfl)]
      exact hdigs (by omega)
    · rw [if_neg (show ¬ nI cnt = 0 from fun z => hc0 ((neq (b := 0) (by omega) (by omega)).mp z)), hh, bnd_s]
      by_cases h40 : T p = 40
      · rw [if_pos (k40.mpr h40)]
        have hpp : pprj T (f + 1) p cnt nd = pend T p cnt nd := by
          show (match tDig T p 4 with
            | some d => pprj T f (p + 1) (cnt + 1) (nd * 10 + d)
            | none => pend T p cnt nd) = _
          have : tDig T p 4 = none := by unfold tDig; rw [if_neg (by omega)]
          rw [this]
        rw [hpp]
        exact hend p cnt nd g (by omega) (by omega) hp h
      · rw [if_neg (fun z => h40 (k40.mp z))]
        exact hdigs (fun z => h40 z.2)

/-- how reading a head ends -/
def HRes (f : Option (Int32 × Mem)) (g : Mem) (q l len : Nat) (T : Nat → Nat) (due : List Nat) (pre : List Nd) (r : Option Nd × Nat) : Prop := ∃ g', Fr q (q + 6) g g' ∧ match r.1 with
  | some nd => NOk nd ∧ f = some (1, g') ∧ CP g' q l len T r.2 (dueNd nd ++ due) (pre ++ [nd])
  | none => f = some (0, g') ∧ CP g' q l len T r.2 due pre
theorem HRes.pre {f : Option (Int32 × Mem)} {g g1 : Mem} {q l len : Nat} {T : Nat → Nat} {due : List Nat} {pre : List Nd} {r : Option Nd × Nat} (h : HRes f g1 q l len T due pre r) (hF : Fr q (q + 6) g g1) : HRes f g q l len T due pre r := by
  obtain ⟨g', a, b⟩ := h
  exact ⟨g', hF.trans a, b⟩
theorem HRes.cong {f f' : Option (Int32 × Mem)} {g : Mem} {q l len : Nat} {T : Nat → Nat} {due : List Nat} {pre : List Nd} {r : Option Nd × Nat} (h : HRes f g q l len T due pre r) (e : f' = f) : HRes f' g q l len T due pre r := e ▸ h
theorem Fr7 {g : Mem} {q : Nat} {v : Int32} : Fr q (q + 6) g (sI g q 7 v) := Fr.rfl.sI (by omega) (by omega)
theorem tdig_some {T : Nat → Nat} {p lim d : Nat} (h : tDig T p lim = some d) : d < lim ∧ T p ≠ 0 := by
  unfold tDig at h
  by_cases hc : 48 ≤ T p ∧ T p < 48 + lim
  · rw [if_pos hc] at h
    have : T p - 48 = d := Option.some.inj h
    omega
  · rw [if_neg hc] at h; cases h
theorem hd_add {n : Nat} {Z : Zt} {q l len p : Nat} {T : Nat → Nat} {due : List Nat} {pre : List Nd} {nd : Nd} {g : Mem} (hZ : QZ Z q) (hL : LZ Z l 60) (hT : TOk T len) (hd : l + 2 ≤ q ∨ q + 6 ≤ l) (h : CP g q l len T p due pre) (hN : NOk nd) (hl : due.length < 116) (hp : pre.length < 60) :
    HRes (bnd (f_X6_take n Z q (40 : Int32) g) (fun r19 g20 => if r19 = 0 then (some ((0 : Int32), g20)) else (bnd (f_X6_addNode n Z q (nI nd.1) (nI nd.2.1) (nI (cSec nd)) g20) (fun r23 g24 => if r23 = 0 then (some ((0 : Int32), g24)) else (some ((1 : Int32), g24)))))) g q l len T due pre (if T p = 40 then (some nd, p + 1) else (none, p)) := by
  have ht := cp_take (n := n) (x := 40) hZ hL hT h (by omega) (by omega)
  show HRes (bnd (f_X6_take n Z q (nI 40) g) _) _ _ _ _ _ _ _ _
  by_cases hc : T p = 40
  · have hpl := hT.in_ (k := p) (by omega)
    have hl60 := hT.1
    rw [if_pos hc] at ht ⊢
    obtain ⟨g', a1, a2, a3⟩ := cp_add (n := n) hZ hd (h.adv hd (p' := p + 1) (by omega)) hN hl hp
    refine ⟨g', Fr7.trans a3, hN, ?_, a2⟩
    rw [ht, bnd_s, if_neg i10, a1, bnd_s, if_neg i10]
  · rw [if_neg hc] at ht ⊢
    exact ⟨g, Fr.rfl, by rw [ht, bnd_s, if_pos rfl], h⟩
theorem CP.step {n : Nat} {g : Mem} {q l len p : Nat} {T : Nat → Nat} {due : List Nat} {pre : List Nd} (hT : TOk T len) (hd : l + 2 ≤ q ∨ q + 6 ≤ l) (h : CP g q l len T p due pre) (hp : T p ≠ 0) : CP (sI g q 7 (nI (p + 1))) q l len T (p + 1) due pre :=
  h.adv hd (by have := hT.in_ hp; have := hT.1; omega)
theorem le0 {d : Nat} (h : d < 2147483648) : (0 : Int32) ≤ nI d := (nle (a := 0) (by omega) h).mpr (Nat.zero_le _)
theorem nlt0 {d : Nat} (h : d < 2147483648) : ¬ nI d < (0 : Int32) := fun z => nI_nlt (a := d) (b := 0) (Nat.zero_le _) h z
theorem cp_sel {n : Nat} {Z : Zt} {q l len p : Nat} {T : Nat → Nat} {due : List Nat} {pre : List Nd} {g : Mem} (hZ : QZ Z q) (hL : LZ Z l 60) (hT : TOk T len) (hd : l + 2 ≤ q ∨ q + 6 ≤ l) (h : CP g q l len T p due pre) (hl : due.length < 116) (hp : pre.length < 60) : HRes (f_X6_readSelect n Z q g) g q l len T due pre (psel T p) := by
  unfold f_X6_readSelect
  rw [grd_t hZ.k]
  have e1 := cp_dig (n := n) (lim := 4) hZ hL hT h (by omega)
  unfold psel
  show HRes (bnd (f_X6_takeDigit n Z q (nI 4) g) _) _ _ _ _ _ _ _ _
  rw [e1]
  cases h1 : tDig T p 4 with
  | none => exact ⟨g, Fr.rfl, by rfl, h⟩
  | some a =>
    obtain ⟨ha, hpa⟩ := tdig_some h1
    have hC1 := h.step (n := n) hT hd hpa
    refine HRes.pre (g1 := sI g q 7 (nI (p + 1))) ?_ Fr7
    simp only [bnd_s]
    rw [if_pos (le0 (by omega)), cp_next hZ hL hT hC1, bnd_s]
    have hp1 := hT.lt (p + 1)
    by_cases h2 : T (p + 1) = 126
    · rw [if_pos (show cI (T (p + 1)) = 126 from (cI_eq (x := 126) hp1 (by omega) (by omega)).mpr h2), if_pos h2]
      unfold f_X6_readSelect_l26 f_X6_readSelect_l40
      rw [if_pos rfl]
      have e2 := cp_take (n := n) (x := 126) hZ hL hT hC1 (by omega) (by omega)
      rw [if_pos h2] at e2
      have hC2 := hC1.step (n := n) hT hd (by omega)
      refine HRes.pre (g1 := sI (sI g q 7 (nI (p + 1))) q 7 (nI (p + 1 + 1))) ?_ Fr7
      show HRes (bnd (f_X6_take n Z q (nI 126) _) _) _ _ _ _ _ _ _ _
      rw [e2, bnd_s, if_neg i10, if_pos rfl]
      unfold f_X6_readSelect_l60
      have e3 := cp_dig (n := n) (lim := 4) hZ hL hT hC2 (by omega)
      show HRes (bnd (f_X6_takeDigit n Z q (nI 4) _) _) _ _ _ _ _ _ _ _
      rw [e3]
      cases h3 : tDig T (p + 2) 4 with
      | none => exact ⟨_, Fr.rfl, by rfl, hC2⟩
      | some c =>
        obtain ⟨hc, hpc⟩ := tdig_some h3
        have hC3 := hC2.step (n := n) hT hd hpc
        refine HRes.pre (g1 := sI (sI (sI g q 7 (nI (p + 1))) q 7 (nI (p + 1 + 1))) q 7 (nI (p + 1 + 1 + 1))) ?_ Fr7
        refine (hd_add (n := n) (nd := (2, a, c)) hZ hL hT hd hC3 (Or.inr (Or.inr (Or.inl ⟨rfl, ha, hc⟩))) hl hp).cong ?_
        simp only [bnd_s]
        rw [if_neg (nlt0 (by omega))]
        rfl
    · rw [if_neg (show ¬ cI (T (p + 1)) = 126 from fun z => h2 ((cI_eq (x := 126) hp1 (by omega) (by omega)).mp z)), if_neg h2]
      unfold f_X6_readSelect_l26 f_X6_readSelect_l40
      rw [if_neg (by decide)]
      have e2 := cp_take (n := n) (x := 61) hZ hL hT hC1 (by omega) (by omega)
      show HRes (bnd (f_X6_take n Z q (nI 61) _) _) _ _ _ _ _ _ _ _
      rw [e2]
      by_cases h2' : T (p + 1) = 61
      · rw [if_pos h2', if_pos h2', bnd_s, if_neg i10, if_neg (by decide)]
        have hC2 := hC1.step (n := n) hT hd (by omega)
        refine HRes.pre (g1 := sI (sI g q 7 (nI (p + 1))) q 7 (nI (p + 1 + 1))) ?_ Fr7
        unfold f_X6_readSelect_l60
        have e3 := cp_dig (n := n) (lim := 10) hZ hL hT hC2 (by omega)
        show HRes (bnd (f_X6_takeDigit n Z q (nI 10) _) _) _ _ _ _ _ _ _ _
        rw [e3]
        cases h3 : tDig T (p + 2) 10 with
        | none => exact ⟨_, Fr.rfl, by rfl, hC2⟩
        | some c =>
          obtain ⟨hc, hpc⟩ := tdig_some h3
          have hC3 := hC2.step (n := n) hT hd hpc
          refine HRes.pre (g1 := sI (sI (sI g q 7 (nI (p + 1))) q 7 (nI (p + 1 + 1))) q 7 (nI (p + 1 + 1 + 1))) ?_ Fr7
          refine (hd_add (n := n) (nd := (1, a, c)) hZ hL hT hd hC3 (Or.inr (Or.inl ⟨rfl, ha, hc⟩)) hl hp).cong ?_
          simp only [bnd_s]
          rw [if_neg (nlt0 (by omega))]
          rfl
      · rw [if_neg h2', if_neg h2', bnd_s, if_pos rfl]
        exact ⟨_, Fr.rfl, rfl, hC1⟩
theorem cp_joi {n : Nat} {Z : Zt} {q l len p : Nat} {T : Nat → Nat} {due : List Nat} {pre : List Nd} {g : Mem} (hZ : QZ Z q) (hL : LZ Z l 60) (hT : TOk T len) (hd : l + 2 ≤ q ∨ q + 6 ≤ l) (h : CP g q l len T p due pre) (hl : due.length < 116) (hp : pre.length < 60) : HRes (f_X6_readJoin n Z q g) g q l len T due pre (pjoi T p) := by
  unfold f_X6_readJoin
  rw [grd_t hZ.k]
  have e1 := cp_dig (n := n) (lim := 4) hZ hL hT h (by omega)
  unfold pjoi
  show HRes (bnd (f_X6_takeDigit n Z q (nI 4) g) _) _ _ _ _ _ _ _ _
  rw [e1]
  cases h1 : tDig T p 4 with
  | none => exact ⟨g, Fr.rfl, by rfl, h⟩
  | some a =>
    obtain ⟨ha, hpa⟩ := tdig_some h1
    have hC1 := h.step (n := n) hT hd hpa
    refine HRes.pre (g1 := sI g q 7 (nI (p + 1))) ?_ Fr7
    simp only [bnd_s]
    rw [if_pos (le0 (by omega))]
    have e3 := cp_dig (n := n) (lim := 4) hZ hL hT hC1 (by omega)
    show HRes (bnd (f_X6_takeDigit n Z q (nI 4) _) _) _ _ _ _ _ _ _ _
    rw [e3]
    cases h3 : tDig T (p + 1) 4 with
    | none => exact ⟨_, Fr.rfl, by rfl, hC1⟩
    | some c =>
      obtain ⟨hc, hpc⟩ := tdig_some h3
      have hC3 := hC1.step (n := n) hT hd hpc
      refine HRes.pre (g1 := sI (sI g q 7 (nI (p + 1))) q 7 (nI (p + 1 + 1))) ?_ Fr7
      refine (hd_add (n := n) (nd := (4, a, c)) hZ hL hT hd hC3 (Or.inr (Or.inr (Or.inr (Or.inr (Or.inl ⟨rfl, ha, hc⟩))))) hl hp).cong ?_
      simp only [bnd_s]
      rw [if_neg (nlt0 (by omega))]
      rfl
theorem dg_snoc {cnt nd d i : Nat} (hd : d < 10) (hi : i < cnt) : dg (cnt + 1) (nd * 10 + d) i = dg cnt nd i := by
  unfold dg
  rw [show cnt + 1 - 1 - i = (cnt - 1 - i) + 1 by omega, Nat.pow_succ, Nat.mul_comm (10 ^ (cnt - 1 - i)) 10, ← Nat.div_div_eq_div_mul, show (nd * 10 + d) / 10 = nd by omega]
theorem dg_last {cnt nd d : Nat} (hd : d < 10) : dg (cnt + 1) (nd * 10 + d) cnt = d := by
  unfold dg
  rw [show cnt + 1 - 1 - cnt = 0 by omega]
  omega
/-- named columns so far -/
def PDg (cnt nd : Nat) : Prop := nd < 10 ^ cnt ∧ ∀ i, i < cnt → dg cnt nd i < 4
theorem PDg.snoc {cnt nd d : Nat} (h : PDg cnt nd) (hd : d < 4) : PDg (cnt + 1) (nd * 10 + d) := by
  refine ⟨?_, fun i hi => ?_⟩
  · have := h.1
    rw [Nat.pow_succ]; omega
  · by_cases hic : i < cnt
    · rw [dg_snoc (by omega) hic]; exact h.2 i hic
    · have hie : i = cnt := by omega
      subst hie
      rw [dg_last (by omega)]; exact hd
theorem cp_prj {n : Nat} {Z : Zt} {q l len : Nat} {T : Nat → Nat} {due : List Nat} {pre : List Nd} (hZ : QZ Z q) (hL : LZ Z l 60) (hT : TOk T len) (hd : l + 2 ≤ q ∨ q + 6 ≤ l) (hl : due.length < 116) (hp : pre.length < 60) : ∀ (f p cnt nd fu : Nat) (g : Mem), cnt + f = 4 → f < fu → CP g q l len T p due pre → PDg cnt nd → HRes (f_X6_readProject_l6 n Z q fu (nI cnt) (nI (pk nd)) (nI cnt) g) g q l len T due pre (pprj T f p cnt nd) := by
  have hend : ∀ (p cnt nd : Nat) (g : Mem), cnt ≤ 4 → CP g q l len T p due pre → PDg cnt nd → HRes (f_X6_readProject_l43 n Z q (nI cnt) (nI (pk nd)) g) g q l len T due pre (pend T p cnt nd) := by
    intro p cnt nd g hc h hP
    unfold f_X6_readProject_l43 pend
    by_cases h0 : 0 < cnt
    · rw [if_neg (show ¬ nI cnt ≤ 0 from fun z => by have := (nle (b := 0) (by omega) (by omega)).mp z; omega)]
      have := hd_add (n := n) (nd := (3, cnt, nd)) hZ hL hT hd h (Or.inr (Or.inr (Or.inr (Or.inl ⟨rfl, h0, hc, hP.1, hP.2⟩)))) hl hp
      by_cases h1 : T p = 40
      · rw [if_pos ⟨h0, h1⟩]; rw [if_pos h1] at this; exact this
      · rw [if_neg (fun z => h1 z.2)]; rw [if_neg h1] at this; exact this
    · rw [if_pos (show nI cnt ≤ 0 from (nle (b := 0) (by omega) (by omega)).mpr (by omega)), if_neg (fun z => h0 z.1)]
      exact ⟨g, Fr.rfl, rfl, h⟩
  intro f
  induction f with
  | zero =>
    intro p cnt nd fu g hcf hfu h hP
    obtain ⟨fu, rfl⟩ : ∃ q, fu = q + 1 := ⟨fu - 1, by omega⟩
    have hc4 : cnt = 4 := by omega
    subst hc4
    rw [f_X6_readProject_l6, if_pos (by decide)]
    exact hend p 4 nd g (by omega) h hP
  | succ f ih =>
    intro p cnt nd fu g hcf hfu h hP
    obtain ⟨fu, rfl⟩ : ∃ q, fu = q + 1 := ⟨fu - 1, by omega⟩
    have e1 := cp_dig (n := n) (lim := 4) hZ hL hT h (by omega)
    rw [f_X6_readProject_l6, if_neg (show ¬ (4 : Int32) ≤ nI cnt from fun z => by have := (nle (a := 4) (by omega) (by omega)).mp z; omega)]
    show HRes (bnd (f_X6_takeDigit n Z q (nI 4) g) _) _ _ _ _ _ _ _ _
    rw [e1]
    show HRes _ _ _ _ _ _ _ _ (match tDig T p 4 with
      | some d => pprj T f (p + 1) (cnt + 1) (nd * 10 + d)
      | none => pend T p cnt nd)
    cases h1 : tDig T p 4 with
    | none =>
      simp only [bnd_s]
      rw [if_neg (by decide)]
      exact hend p cnt nd g (by omega) h hP
    | some d =>
      obtain ⟨ha, hpa⟩ := tdig_some h1
      have hC1 := h.step (n := n) hT hd hpa
      refine HRes.pre (g1 := sI g q 7 (nI (p + 1))) ?_ Fr7
      have hnd : nd < 1000 := Nat.lt_of_lt_of_le hP.1 (Nat.pow_le_pow_right (n := 10) (by omega) (show cnt ≤ 3 by omega))
      have ej : f_X2_join n Z (nI (pk nd)) (nI (pk d)) (nI 1) (sI g q 7 (nI (p + 1))) = some (nI (pk (nd * 10 ^ 1 + d)), sI g q 7 (nI (p + 1))) := key_join (by omega) (by omega) (by omega)
      have ed : pk d = d := by unfold pk; omega
      rw [ed] at ej
      simp only [bnd_s]
      rw [if_pos (le0 (by omega))]
      show HRes (bnd (f_X2_join n Z (nI (pk nd)) (nI d) (nI 1) _) _) _ _ _ _ _ _ _ _
      rw [ej, bnd_s, nI_1]
      exact ih (p + 1) (cnt + 1) (nd * 10 + d) fu _ (by omega) (by omega) hC1 (hP.snoc ha)
theorem HRes.isz {f : Option (Int32 × Mem)} {g : Mem} {q l len : Nat} {T : Nat → Nat} {due : List Nat} {pre : List Nd} {r : Option Nd × Nat} (h : HRes f g q l len T due pre r) : HRes (bnd f fun r14 g15 => grd (isz r14) (some (r14, g15))) g q l len T due pre r := by
  obtain ⟨g', a, b⟩ := h
  refine ⟨g', a, ?_⟩
  cases hr : r.1 with
  | some nd =>
    rw [hr] at b
    exact ⟨b.1, by rw [b.2.1, bnd_s, grd_t (Or.inr rfl)], b.2.2⟩
  | none =>
    rw [hr] at b
    exact ⟨by rw [b.1, bnd_s, grd_t (Or.inl rfl)], b.2⟩
theorem cI_k {t x : Nat} (ht : t < 128) (hx : 0 < x) (hx2 : x < 128) (h : t = x) : cI t = nI x := (cI_eq ht hx hx2).mpr h
theorem cI_nk {t x : Nat} (ht : t < 128) (hx : 0 < x) (hx2 : x < 128) (h : ¬ t = x) : ¬ cI t = nI x := fun z => h ((cI_eq ht hx hx2).mp z)
theorem cp_head {n : Nat} {Z : Zt} {q l len p : Nat} {T : Nat → Nat} {due : List Nat} {pre : List Nd} {g : Mem} (hn : 40 ≤ n) (hZ : QZ Z q) (hL : LZ Z l 60) (hT : TOk T len) (hd : l + 2 ≤ q ∨ q + 6 ≤ l) (h : CP g q l len T p due pre) (hl : due.length < 116) (hp : pre.length < 60) : HRes (f_X6_readHead n Z q g) g q l len T due pre (phead T p) := by
  have ht := hT.lt p
  unfold f_X6_readHead
  rw [grd_t hZ.k, cp_next hZ hL hT h, bnd_s]
  unfold phead
  by_cases hA : 65 ≤ T p ∧ T p < 69
  · rw [if_pos hA, if_neg (fun z => by have := (cI_65 _ ht).mp z; omega), if_neg (fun z => by have := (cI_69 _ ht).mp z; omega), h.2.2.1, nI_1, show cI (T p) - (65 : Int32) = nI (T p - 65) from cI_sub (x := 65) hA.1 (by omega)]
    have hC1 := h.step (n := n) hT hd (show T p ≠ 0 by omega)
    obtain ⟨g', a1, a2, a3⟩ := cp_add (n := n) (nd := (0, T p - 65, 0)) hZ hd hC1 (Or.inl ⟨rfl, by show T p - 65 < 4; omega, rfl⟩) hl hp
    refine HRes.isz ⟨g', Fr7.trans a3, Or.inl ⟨rfl, by show T p - 65 < 4; omega, rfl⟩, a1, a2⟩
  · have e38 : (if cI (T p) < (65 : Int32) then (f_X6_readHead_l38 n Z q (cI (T p)) g) else (if (69 : Int32) ≤ cI (T p) then (f_X6_readHead_l38 n Z q (cI (T p)) g) else (bnd (f_X6_addNode n Z q (0 : Int32) (cI (T p) - (65 : Int32)) (0 : Int32) (sI g q 7 ((gI g q 7) + (1 : Int32)))) (fun r6 g7 => grd (isz r6) (some (r6, g7)))))) = f_X6_readHead_l38 n Z q (cI (T p)) g := by
      by_cases q1 : T p < 65
      · rw [if_pos ((cI_65 _ ht).mpr q1)]
      · rw [if_neg (fun z => q1 ((cI_65 _ ht).mp z)), if_pos ((cI_69 _ ht).mpr (by omega))]
    rw [e38, if_neg hA]
    unfold f_X6_readHead_l38
    rw [h.2.2.1, nI_1]
    by_cases c1 : T p = 106
    · rw [if_pos (show cI (T p) = 106 from cI_k (x := 106) ht (by omega) (by omega) c1), if_pos c1]
      exact ((cp_joi (n := n) hZ hL hT hd (h.step (n := n) hT hd (by omega)) hl hp).isz).pre Fr7
    · rw [if_neg (show ¬ cI (T p) = 106 from cI_nk (x := 106) ht (by omega) (by omega) c1), if_neg c1]
      by_cases c2 : T p = 112
      · rw [if_pos (show cI (T p) = 112 from cI_k (x := 112) ht (by omega) (by omega) c2), if_pos c2]
        refine HRes.isz (HRes.pre (g1 := sI g q 7 (nI (p + 1))) ?_ Fr7)
        refine (cp_prj (n := n) hZ hL hT hd hl hp 4 (p + 1) 0 0 n _ (by omega) (by omega) (h.step (n := n) hT hd (by omega)) ⟨by decide, fun i hi => by omega⟩).cong ?_
        unfold f_X6_readProject
        rw [grd_t hZ.k]
        rfl
      · rw [if_neg (show ¬ cI (T p) = 112 from cI_nk (x := 112) ht (by omega) (by omega) c2), if_neg c2]
        by_cases c3 : T p = 115
        · rw [if_pos (show cI (T p) = 115 from cI_k (x := 115) ht (by omega) (by omega) c3), if_pos c3]
          exact ((cp_sel (n := n) hZ hL hT hd (h.step (n := n) hT hd (by omega)) hl hp).isz).pre Fr7
        · rw [if_neg (show ¬ cI (T p) = 115 from cI_nk (x := 115) ht (by omega) (by omega) c3), if_neg c3]
          by_cases c4 : T p = 117
          · rw [if_pos (show cI (T p) = 117 from cI_k (x := 117) ht (by omega) (by omega) c4), if_pos c4]
            exact (hd_add (n := n) (nd := (5, 0, 0)) hZ hL hT hd (h.step (n := n) hT hd (by omega)) (Or.inr (Or.inr (Or.inr (Or.inr (Or.inr ⟨rfl, rfl, rfl⟩))))) hl hp).pre Fr7
          · rw [if_neg (show ¬ cI (T p) = 117 from cI_nk (x := 117) ht (by omega) (by omega) c4), if_neg c4]
            exact ⟨g, Fr.rfl, rfl, h⟩

/-! THE CLASS COMPUTES A WHOLE QUERY -/
def dV : Vl := (0, [])
theorem crun_app {α : Type} (h : Nd → α → α → Option α) (d : α) (A B : List Nd) (st : List α) : crun h d (A ++ B) st = (crun h d B st).bind (crun h d A) := by
  induction A with
  | nil => show crun h d B st = (crun h d B st).bind (crun h d []); cases crun h d B st with
    | none => rfl
    | some _ => rfl
  | cons x A ih =>
    show (crun h d (A ++ B) st).bind (cst h d x) = (crun h d B st).bind fun u => (crun h d A u).bind (cst h d x)
    rw [ih]
    cases crun h d B st with
    | none => rfl
    | some _ => rfl
/-- what a query comes to: its columns, its value -/
def qw (b : Nat → Nat) (pre : List Nd) : Option Nat := (vals (hW b) 0 pre).getD 0 none
def qv (b : Nat → Nat) (pre : List Nd) : Option Vl := (vals (hV b) dV pre).getD 0 none
theorem map1_get {st : List Vl} (i : Nat) : (st.map fun v => v.1).getD i 0 = (st.getD i (0, [])).1 := by
  rw [List.getD_eq_getElem?_getD, List.getD_eq_getElem?_getD, List.getElem?_map]
  cases st[i]? with
  | none => rfl
  | some _ => rfl
theorem cst_some {α : Type} {h : Nd → α → α → Option α} {d : α} {nd : Nd} {st st' : List α} (e : cst h d nd st = some st') : ar nd.1 ≤ st.length ∧ ∃ v, h nd (st.getD 0 d) (st.getD 1 d) = some v ∧ st' = v :: st.drop (ar nd.1) := by
  unfold cst at e
  by_cases q : st.length < ar nd.1
  · rw [if_pos q] at e; cases e
  · rw [if_neg q] at e
    refine ⟨by omega, ?_⟩
    cases hh : h nd (st.getD 0 d) (st.getD 1 d) with
    | none => rw [hh] at e; cases e
    | some v => rw [hh] at e; cases e; exact ⟨v, rfl, rfl⟩
theorem m1S {x : Int32} : x + (-1) = x - 1 := (Int32.sub_eq_add_neg x 1).symm
/-- how computing ends -/
def WRes (f : Option (Int32 × Mem)) (g : Mem) (a : Nat) (C : Nat → Vl) (o : Option (List Vl)) : Prop := match o with
  | some st => ∃ g' ρ' C', f = some (1, g') ∧ EvIs g' a ρ' C' ∧ StkIs C' st ∧ Fr a (a + 1388) g g' ∧ C' 13 = C 13
  | none => ∃ g' ρ' C', f = some (0, g') ∧ EvIs g' a ρ' C' ∧ Fr a (a + 1388) g g' ∧ C' 13 = C 13
theorem WRes.pre {f : Option (Int32 × Mem)} {g g1 : Mem} {a : Nat} {C C1 : Nat → Vl} {o : Option (List Vl)} (h : WRes f g1 a C1 o) (hF : Fr a (a + 1388) g g1) (e : C1 13 = C 13) : WRes f g a C o := by
  cases o with
  | none => obtain ⟨g', ρ', C', h1, h2, h3, h4⟩ := h; exact ⟨g', ρ', C', h1, h2, hF.trans h3, h4.trans e⟩
  | some st => obtain ⟨g', ρ', C', h1, h2, h3, h4, h5⟩ := h; exact ⟨g', ρ', C', h1, h2, h3, hF.trans h4, h5.trans e⟩
theorem drop_cons {α : Type} {l : List α} {k : Nat} (d : α) (h : k < l.length) : l.drop k = l.getD k d :: l.drop (k + 1) := drop_one l k d h
theorem hV_ok {b : Nat → Nat} {nd : Nd} {f s v : Vl} (hb : BOk b) (hn : NOk nd) (hf : NFit nd f.1 s.1) (vf : nd.1 ≠ 0 → VOk f) (vs : nd.1 = 4 ∨ nd.1 = 5 → VOk s) (e : hV b nd f s = some v) : v.1 = opW b nd f.1 s.1 ∧ VOk v := by
  have hk := opL_KB hb hn hf vf vs
  unfold hV at e
  cases hr : rAddL [] (opL b nd f s) with
  | none => rw [hr] at e; cases e
  | some rows =>
    rw [hr] at e
    cases e
    exact ⟨rfl, hk.2.1, hk.2.2, rAddL_KB hk.1 (fun x hx => by cases hx) hr⟩
/-- depth of the stack -/
theorem depth12 {pre : List Nd} {k j : Nat} (hw : wfn pre 1) (ho : ownL pre ≤ 60) (hj : wfn (pre.drop k) j) : j ≤ 12 := by
  have e := List.take_append_drop k pre
  have h1 : wfn (pre.take k ++ pre.drop k) 1 := by rw [e]; exact hw
  have h2 := wfn_down h1 hj
  have h3 := wfn_up hj
  have h4 : ownL (pre.take k) + ownL (pre.drop k) = ownL pre := by rw [← ownL_app, e]
  omega
theorem crun_suf {α : Type} {h : Nd → α → α → Option α} {d : α} {pre : List Nd} {v : List α} (e : crun h d pre [] = some v) (k : Nat) : ∃ u, crun h d (pre.drop k) [] = some u := by
  rw [← List.take_append_drop k pre, crun_app] at e
  cases q : crun h d (pre.drop k) [] with
  | none => rw [q] at e; cases e
  | some u => exact ⟨u, rfl⟩
theorem ar_pos {nd : Nd} {k : Nat} (h : ar nd.1 ≤ k) (z : nd.1 ≠ 0) : 1 ≤ k := by
  unfold ar at h; rw [if_neg z] at h; split at h <;> omega
theorem ar_two {nd : Nd} {k : Nat} (h : ar nd.1 ≤ k) (z : nd.1 = 4 ∨ nd.1 = 5) : 2 ≤ k := by
  unfold ar at h; rw [if_neg (by omega), if_pos z] at h; exact h
theorem vok_get {st : List Vl} (hv : ∀ v ∈ st, VOk v) {i : Nat} (hi : i < st.length) : VOk (st.getD i (0, [])) := by
  refine hv _ ?_
  rw [List.getD_eq_getElem?_getD, List.getElem?_eq_getElem hi]
  exact List.getElem_mem hi
theorem c_l33 {n : Nat} {Z : Zt} {a q s w : Nat} {b : Nat → Nat} {pre : List Nd} (hn : 40 ≤ n) (hZ : EZ Z a) (hZq : QZ Z q) (hZs : SZ Z s) (hb : BOk b) (hdq : q + 6 ≤ a ∨ a + 1388 ≤ q) (hds : s + 8 ≤ a ∨ a + 1388 ≤ s) (hN : ∀ x ∈ pre, NOk x) (hw : wfn pre 1) (ho : ownL pre ≤ 60) (hFit : crun (hW b) 0 pre [] = some [w]) : ∀ (k fu : Nat) (g : Mem) (ρ : Nat → Nat) (C : Nat → Vl) (st : List Vl), k ≤ pre.length → k < fu → QIs g q pre → StIs g s b → EvIs g a ρ C → StkIs C st → gI g a 3 = nI st.length → crun (hV b) dV (pre.drop k) [] = some st → crun (hW b) 0 (pre.drop k) [] = some (st.map fun v => v.1) → (∀ v ∈ st, VOk v) → wfn (pre.drop k) st.length →
    WRes (f_X0_compute_l33 n Z a fu q s (nI k - 1) g) g a C (crun (hV b) dV pre []) := by
  intro k
  induction k with
  | zero =>
    intro fu g ρ C st h1 h2 hQ hS hE hs ht e1 e2 hv hwk
    obtain ⟨fu, rfl⟩ : ∃ q, fu = q + 1 := ⟨fu - 1, by omega⟩
    have hl : st.length = 1 := wfn_uniq hwk hw
    rw [show crun (hV b) dV pre [] = some st from e1]
    unfold f_X0_compute_l33
    rw [if_pos (show nI 0 - 1 < (0 : Int32) by decide), ht, hl, if_pos (show nI 1 = (1 : Int32) from rfl)]
    exact ⟨g, ρ, C, rfl, hE, hs, Fr.rfl, rfl⟩
  | succ k ih =>
    intro fu g ρ C st h1 h2 hQ hS hE hs ht e1 e2 hv hwk
    obtain ⟨fu, rfl⟩ : ∃ q, fu = q + 1 := ⟨fu - 1, by omega⟩
    have hlen := hQ.2.1
    have hd := drop_cons (0, 0, 0) (show k < pre.length by omega)
    have hmem : pre.getD k (0, 0, 0) ∈ pre := by
      rw [List.getD_eq_getElem?_getD, List.getElem?_eq_getElem (show k < pre.length by omega)]
      exact List.getElem_mem _
    revert hd hmem
    generalize hnd : pre.getD k (0, 0, 0) = nd
    intro hd hmem
    have hNd := hN nd hmem
    obtain ⟨ws, hws⟩ := crun_suf hFit k
    have hws2 := hws
    rw [hd] at hws2
    have hws3 : (crun (hW b) 0 (pre.drop (k + 1)) []).bind (cst (hW b) 0 nd) = some ws := hws2
    rw [e2] at hws3
    obtain ⟨har, v, hv1, hv2⟩ := cst_some (show cst (hW b) 0 nd (st.map fun v => v.1) = some ws from hws3)
    rw [List.length_map] at har
    rw [map1_get, map1_get] at hv1
    obtain ⟨hF, hv3⟩ := hW_some hv1
    have d1 := depth12 hw ho hwk
    have hwk' : wfn (pre.drop k) (st.length - ar nd.1 + 1) := by
      rw [hd]
      exact ⟨st.length - ar nd.1, rfl, by rw [show st.length - ar nd.1 + ar nd.1 = st.length by omega]; exact hwk⟩
    have d2 := depth12 hw ho hwk'
    have hc := c_node (n := n) hn hZ hZq hZs hb hdq hds hQ hS hE hs ht d1 (show k < pre.length by omega) hnd hNd har (by omega) hF hv
    have hx : nI (k + 1) - 1 = nI k := subN (a := k + 1) (b := 1) (by omega)
    have hce : crun (hV b) dV (pre.drop k) [] = cst (hV b) dV nd st := by
      rw [hd]
      show (crun (hV b) dV (pre.drop (k + 1)) []).bind (cst (hV b) dV nd) = _
      rw [e1]; rfl
    unfold f_X0_compute_l33
    rw [hx, if_neg (by rw [not_neg (by omega)]; exact id)]
    cases hh : hV b nd (st.getD 0 (0, [])) (st.getD 1 (0, [])) with
    | none =>
      rw [hh] at hc
      obtain ⟨g', ρ', C', e, h3, h4, h5⟩ := hc
      have hce2 : cst (hV b) dV nd st = none := by
        unfold cst
        rw [if_neg (by omega)]
        show (hV b nd (st.getD 0 (0, [])) (st.getD 1 (0, []))).map _ = none
        rw [hh]; rfl
      have : crun (hV b) dV pre [] = none := by
        rw [← List.take_append_drop k pre, crun_app, hce, hce2]; rfl
      rw [this, e, bnd_s, if_pos rfl]
      exact ⟨g', ρ', C', rfl, h3, h4, h5⟩
    | some v2 =>
      rw [hh] at hc
      obtain ⟨g', ρ', C', e, h3, h4, h5, h6, h7⟩ := hc
      obtain ⟨p1, p2⟩ := hV_ok hb hNd hF (fun z => vok_get hv (ar_pos har z)) (fun z => vok_get hv (ar_two har z)) hh
      have hce2 : cst (hV b) dV nd st = some (v2 :: st.drop (ar nd.1)) := by
        unfold cst
        rw [if_neg (by omega)]
        show (hV b nd (st.getD 0 (0, [])) (st.getD 1 (0, []))).map _ = _
        rw [hh]; rfl
      rw [e, bnd_s, if_neg (by decide), m1S]
      have hdl : (v2 :: st.drop (ar nd.1)).length = st.length - ar nd.1 + 1 := by
        show (st.drop (ar nd.1)).length + 1 = _
        rw [List.length_drop]
      refine (ih fu g' ρ' C' (v2 :: st.drop (ar nd.1)) (by omega) (by omega) (hQ.fr h6 (by omega)) (hS.fr h6 (by omega)) h3 h4 ?_ (hce.trans hce2) ?_ ?_ ?_).pre h6 h7
      · rw [h5, hdl, List.length_drop]
      · rw [hws, hv2]
        show some (v :: (st.map fun v => v.1).drop (ar nd.1)) = some (v2.1 :: (st.drop (ar nd.1)).map fun v => v.1)
        rw [p1, hv3, List.map_drop]
      · intro x hx
        rcases List.mem_cons.mp hx with e | e
        · rw [e]; exact p2
        · exact hv x (List.mem_of_mem_drop e)
      · rw [hdl]; exact hwk'
/-- how computing ends, in short -/
def VRes (f : Option (Int32 × Mem)) (g : Mem) (a : Nat) (C : Nat → Vl) (o : Option Vl) : Prop := match o with
  | some v => ∃ g' ρ' C', f = some (1, g') ∧ EvIs g' a ρ' C' ∧ C' 0 = (v.1, pkR v.2) ∧ Fr a (a + 1388) g g' ∧ C' 13 = C 13
  | none => ∃ g' ρ' C', f = some (0, g') ∧ EvIs g' a ρ' C' ∧ Fr a (a + 1388) g g' ∧ C' 13 = C 13
theorem EvIs.top {g : Mem} {a : Nat} {ρ : Nat → Nat} {C : Nat → Vl} {x : Int32} (h : EvIs g a ρ C) : EvIs (sI g a 3 x) a ρ C := by
  refine ⟨h.1, h.2.1, h.2.2.1, h.2.2.2.1, h.2.2.2.2.1, fun i hi => ?_⟩
  obtain ⟨π, hR⟩ := h.2.2.2.2.2 i hi
  have := h.2.2.2.1 i hi
  exact ⟨π, hR.fr (Fr.rfl.sI (lo := a) (hi := a + 1) (by omega) (by omega)) (by omega)⟩
/-- compute, of a query -/
theorem c_compute {n : Nat} {Z : Zt} {a q s w : Nat} {b : Nat → Nat} {pre : List Nd} {g : Mem} {ρ : Nat → Nat} {C : Nat → Vl} (hn : 100 ≤ n) (hZ : EZ Z a) (hZq : QZ Z q) (hZs : SZ Z s) (hb : BOk b) (hdq : q + 6 ≤ a ∨ a + 1388 ≤ q) (hds : s + 8 ≤ a ∨ a + 1388 ≤ s) (hN : ∀ x ∈ pre, NOk x) (hw : wfn pre 1) (ho : ownL pre ≤ 60) (hFit : qw b pre = some w) (hQ : QIs g q pre) (hQ9 : gI g q 9 = 1) (hS : StIs g s b) (hE : EvIs g a ρ C) :
    VRes (f_X0_compute n Z a q s g) g a C (qv b pre) := by
  have hlen := hQ.2.1
  have hF0 : Fr a (a + 1388) g (sI g a 3 0) := Fr.rfl.sI (by omega) (by omega)
  have hQ' := hQ.fr hF0 (by omega)
  have hF2 : crun (hW b) 0 pre [] = some [w] := by
    rw [(run_agree (hW_ign b) hw).1]
    show (qw b pre).map _ = _
    rw [hFit]; rfl
  have hV2 : crun (hV b) dV pre [] = (qv b pre).map fun x => [x] := (run_agree (hV_ign b) hw).1
  have h9 : gI (sI g a 3 0) q 9 = 1 := (hF0.i (by omega) _).trans hQ9
  have hmain := c_l33 (n := n) (by omega) hZ hZq hZs hb hdq hds hN hw ho hF2 pre.length n (sI g a 3 0) ρ C [] (Nat.le_refl _) (by omega) hQ' (hS.fr hF0 (by omega)) hE.top trivial (by rw [gI_sI, if_pos ⟨rfl, rfl⟩]; rfl) (by rw [List.drop_length]; rfl) (by rw [List.drop_length]; rfl) (fun v hv => by cases hv) (by rw [List.drop_length]; exact rfl)
  unfold f_X0_compute f_X6_isWhole f_X6_size
  rw [grd_t hZ.1.1, grd_t hZq.k, h9, grd_t (show isz (1 : Int32) from Or.inr rfl), bnd_s, if_neg (by decide), grd_t hZq.k, bnd_s, hQ'.1]
  rw [hV2] at hmain
  cases hq : qv b pre with
  | none =>
    rw [hq] at hmain
    obtain ⟨g', ρ', C', e, h1, h2, h3⟩ := hmain
    exact ⟨g', ρ', C', e, h1, hF0.trans h2, h3⟩
  | some v =>
    rw [hq] at hmain
    obtain ⟨g', ρ', C', e, h1, h2, h3, h4⟩ := hmain
    exact ⟨g', ρ', C', e, h1, h2.1, hF0.trans h3, h4⟩
/-- compute, without a query -/
theorem c_compute_no {n : Nat} {Z : Zt} {a q s : Nat} {g : Mem} {ρ : Nat → Nat} {C : Nat → Vl} (hZ : EZ Z a) (hZq : QZ Z q) (hdq : q + 6 ≤ a ∨ a + 1388 ≤ q) (hQ9 : gI g q 9 = 0) (hE : EvIs g a ρ C) :
    VRes (f_X0_compute n Z a q s g) g a C (some dV) := by
  have h12 := hE.2.2.2.1 12 (by omega)
  have hF0 : Fr a (a + 1388) g (sI g a 3 0) := Fr.rfl.sI (by omega) (by omega)
  have h9 : gI (sI g a 3 0) q 9 = 0 := (hF0.i (by omega) _).trans hQ9
  have hE0 := hE.top (x := 0)
  obtain ⟨π, hR⟩ := hE0.2.2.2.2.2 12 (by omega)
  obtain ⟨g1, e1, hR1, hF1⟩ := r_clear (n := n) (w := 0) (hZ.2 _ h12) hR
  have hE1 := hE0.fill hR1 hF1
  have ht1 : gI g1 a 3 = nI 0 := (hF1.i (by omega) _).trans (by rw [gI_sI, if_pos ⟨rfl, rfl⟩]; rfl)
  obtain ⟨g2, e2, hE2, ht2, hF2⟩ := c_pushSpare (n := n) (p := 0) hZ hE1 ht1 (by omega) (by omega) (by omega)
  unfold f_X0_compute f_X6_isWhole
  rw [grd_t hZ.1.1, grd_t hZq.k, h9, grd_t (show isz (0 : Int32) from Or.inl rfl), bnd_s, if_pos rfl, hE0.2.1, nam_s, drf_s, show f_X7_clear n Z (a + 2 + 99 * ρ 12) (0 : Int32) _ = _ from e1, bnd_s, show f_X0_pushSpare n Z a (0 : Int32) g1 = _ from e2, bnd_s, grd_t (show isz (1 : Int32) from Or.inr rfl)]
  refine ⟨g2, _, _, rfl, hE2, ?_, (hF0.trans (hF1.mono (by omega) (by omega))).trans (hF2.mono (by omega) (by omega)), ?_⟩
  · simp [swp, dV, pkR]
  · simp [swp]
/-- keepResult -/
theorem c_keep {n : Nat} {Z : Zt} {a : Nat} {g : Mem} {ρ : Nat → Nat} {C : Nat → Vl} (hZ : EZ Z a) (h : EvIs g a ρ C) : ∃ g' ρ' C', f_X0_keepResult n Z a g = some ((), g') ∧ EvIs g' a ρ' C' ∧ C' 13 = C 0 ∧ Fr a (a + 2) g g' := by
  have h0 := h.2.2.2.1 0 (by omega)
  have h13 := h.2.2.2.1 13 (by omega)
  have hz := hZ.2 _ h13
  unfold f_X0_keepResult
  rw [grd_t hZ.1.1, hZ.1.2.1, drf_s, grd_t hZ.1.2.2.1, hZ.1.2.2.2, grd_t (show inr (0 : Int32) 12 from inr_n (k := 0) (by omega) (by omega))]
  have c0 : (0 : Int32).toNatClampNeg = 0 := rfl
  simp only [c0]
  rw [h.1 0 (by omega), nam_s, if_neg (by simp), drf_s, h.2.2.1, nam_s, drf_s, grd_t hZ.1.2.2.1, grd_t hz.1.1, hZ.1.2.2.2, grd_t (show inr (0 : Int32) 12 from inr_n (k := 0) (by omega) (by omega))]
  have hF : Fr a (a + 2) g (sP (sP g (a + 1) 0 (some (a + 2 + 99 * ρ 13))) a 2 (some (a + 2 + 99 * ρ 0))) := (Fr.rfl.sP (by omega) (by omega)).sP (by omega) (by omega)
  refine ⟨_, fun i => if i = 0 then ρ 13 else if i = 13 then ρ 0 else ρ i, fun i => if i = 0 then C 13 else if i = 13 then C 0 else C i, rfl, ⟨fun i hi => ?_, ?_, ?_, fun i hi => ?_, fun i k hi hk => ?_, fun i hi => ?_⟩, by simp, hF⟩
  · simp only [gP_sP]
    by_cases q : i = 0
    · rw [if_neg (by omega), if_pos ⟨trivial, q⟩, if_pos q]
    · rw [if_neg (by omega), if_neg (by omega), if_neg q, if_neg (by omega)]
      exact h.1 i hi
  · simp only [gP_sP]
    rw [if_neg (by omega), if_neg (by omega), if_neg (by omega), if_neg (by omega)]
    exact h.2.1
  · simp only [gP_sP]
    rw [if_pos ⟨trivial, trivial⟩, if_neg (by omega), if_pos trivial]
  · show (if i = 0 then ρ 13 else if i = 13 then ρ 0 else ρ i) < 14
    split
    · exact h13
    · split
      · exact h0
      · exact h.2.2.2.1 i hi
  · have inj := h.2.2.2.2.1
    show (if i = 0 then ρ 13 else if i = 13 then ρ 0 else ρ i) = (if k = 0 then ρ 13 else if k = 13 then ρ 0 else ρ k) → i = k
    intro z
    by_cases q1 : i = 0
    · rw [if_pos q1] at z
      by_cases q2 : k = 0
      · omega
      · rw [if_neg q2] at z
        by_cases q3 : k = 13
        · rw [if_pos q3] at z
          have := inj _ _ (by omega) (by omega) z; omega
        · rw [if_neg q3] at z
          have := inj _ _ (by omega) (by omega) z; omega
    · rw [if_neg q1] at z
      by_cases q4 : i = 13
      · rw [if_pos q4] at z
        by_cases q2 : k = 0
        · rw [if_pos q2] at z
          have := inj _ _ (by omega) (by omega) z; omega
        · rw [if_neg q2] at z
          by_cases q3 : k = 13
          · omega
          · rw [if_neg q3] at z
            have := inj _ _ (by omega) (by omega) z; omega
      · rw [if_neg q4] at z
        by_cases q2 : k = 0
        · rw [if_pos q2] at z
          have := inj _ _ (by omega) (by omega) z; omega
        · rw [if_neg q2] at z
          by_cases q3 : k = 13
          · rw [if_pos q3] at z
            have := inj _ _ (by omega) (by omega) z; omega
          · rw [if_neg q3] at z
            exact inj _ _ hi hk z
  · have key : ∀ x, x < 14 → ∃ π, RIs (sP (sP g (a + 1) 0 (some (a + 2 + 99 * ρ 13))) a 2 (some (a + 2 + 99 * ρ 0))) (a + 2 + 99 * ρ x) (C x).1 π (C x).2 := fun x hx => by
      obtain ⟨π, hR⟩ := h.2.2.2.2.2 x hx
      exact ⟨π, hR.fr hF (by omega)⟩
    by_cases q1 : i = 0
    · simp only [if_pos q1]
      exact key 13 (by omega)
    · by_cases q2 : i = 13
      · simp only [if_neg q1, if_pos q2]
        exact key 0 (by omega)
      · simp only [if_neg q1, if_neg q2]
        exact key i hi

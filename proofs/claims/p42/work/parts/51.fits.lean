/-! WHETHER A QUERY FITS -/
/-- widths on a stack -/
def WsIs (g : Mem) (c : Nat) : List Nat → Prop
  | [] => True
  | x :: st => gI g c st.length = nI x ∧ WsIs g c st
theorem WsIs.ch {P : Nat → Nat → Prop} {g g' : Mem} {c : Nat} (hF : Ch P g g') : ∀ {st : List Nat}, (∀ j, j < st.length → ¬ P c j) → WsIs g c st → WsIs g' c st
  | [], _, _ => trivial
  | x :: st, h, hS => ⟨(hF.i (h _ (by simp))).trans hS.1, WsIs.ch hF (fun j hj => h j (by simp only [List.length_cons]; omega)) hS.2⟩
theorem WsIs.drop {g : Mem} {c : Nat} : ∀ {st : List Nat} (k : Nat), WsIs g c st → WsIs g c (st.drop k)
  | [], k, _ => by simp [WsIs]
  | x :: st, 0, h => h
  | x :: st, k + 1, h => WsIs.drop k h.2
theorem WsIs.at {g : Mem} {c : Nat} : ∀ {st : List Nat} {i : Nat}, i < st.length → WsIs g c st → gI g c (st.length - 1 - i) = nI (st.getD i 0)
  | [], _, h, _ => absurd h (Nat.not_lt_zero _)
  | x :: st, 0, _, h => h.1
  | x :: st, i + 1, hi, h => by
    have := WsIs.at (st := st) (i := i) (by simpa using hi) h.2
    have e : (x :: st).length - 1 - (i + 1) = st.length - 1 - i := by simp only [List.length_cons]; omega
    rw [e]; exact this
theorem getD_mem {α : Type} {l : List α} {k : Nat} {d : α} (h : k < l.length) : l.getD k d ∈ l := by
  induction l generalizing k with
  | nil => exact absurd h (Nat.not_lt_zero _)
  | cons x l ih => cases k with
    | zero => exact List.mem_cons_self ..
    | succ k => exact List.mem_cons_of_mem _ (ih (by simpa using h))
theorem getD_big {α : Type} {l : List α} {k : Nat} {d : α} (h : l.length ≤ k) : l.getD k d = d := by
  induction l generalizing k with
  | nil => rfl
  | cons x l ih => cases k with
    | zero => simp at h
    | succ k => exact ih (by simpa using h)
theorem ws_le {st : List Nat} (h : ∀ x ∈ st, 1 ≤ x ∧ x ≤ 4) (i : Nat) : st.getD i 0 ≤ 4 := by
  by_cases hi : i < st.length
  · exact (h _ (getD_mem hi)).2
  · rw [getD_big (by omega)]; omega
theorem ws_pos {st : List Nat} (h : ∀ x ∈ st, 1 ≤ x ∧ x ≤ 4) {i : Nat} (hi : i < st.length) : 1 ≤ st.getD i 0 := (h _ (getD_mem hi)).1
theorem hW_rng {b : Nat → Nat} {nd : Nd} {f s w : Nat} (hb : BOk b) (hk : NOk nd) (h5 : nd.1 = 5 → 1 ≤ f) (e : hW b nd f s = some w) : 1 ≤ w ∧ w ≤ 4 ∨ nd.1 = 1 ∧ w = f ∨ nd.1 = 2 ∧ w = f ∨ nd.1 = 5 ∧ w = f := by
  obtain ⟨hf, he⟩ := hW_some e
  obtain ⟨kd, a, c⟩ := nd
  have hk' : kd = 0 ∧ a < 4 ∧ c = 0 ∨ kd = 1 ∧ a < 4 ∧ c < 10 ∨ kd = 2 ∧ a < 4 ∧ c < 4 ∨ kd = 3 ∧ 1 ≤ a ∧ a ≤ 4 ∧ c < 10 ^ a ∧ (∀ i, i < a → dg a c i < 4) ∨ kd = 4 ∧ a < 4 ∧ c < 4 ∨ kd = 5 ∧ a = 0 ∧ c = 0 := hk
  rcases hk' with ⟨q, q1, q2⟩ | ⟨q, q1, q2⟩ | ⟨q, q1, q2⟩ | ⟨q, q1, q2, q3, q4⟩ | ⟨q, q1, q2⟩ | ⟨q, q1, q2⟩ <;> subst q
  · have := hb.1 a q1
    have he : w = b a := he
    omega
  · exact Or.inr (Or.inl ⟨rfl, he⟩)
  · exact Or.inr (Or.inr (Or.inl ⟨rfl, he⟩))
  · have he : w = a := he
    omega
  · have he : w = f + s := he
    have := hf.2.2.2.1 rfl
    have h1 : a < f := this.1
    omega
  · exact Or.inr (Or.inr (Or.inr ⟨rfl, he⟩))
/-! the class -/
theorem ncb_l2 {n : Nat} {Z : Zt} {f cnt nd : Nat} {g : Mem} (hf : f ≤ 4) (hc : cnt ≤ 4) : ∀ (d k fu : Nat), d = cnt - k → k ≤ cnt → d < fu → (∀ i, i < k → dg cnt nd i < f) →
    f_X6_namesColumnsBelow_l2 n Z fu (nI f) (nI cnt) (nI (pk nd)) (nI k) g = some (if ∀ i, i < cnt → dg cnt nd i < f then 1 else 0, g) := by
  intro d
  induction d with
  | zero =>
    intro k fu hd hk hfu hp
    obtain ⟨fu, rfl⟩ : ∃ q, fu = q + 1 := ⟨fu - 1, by omega⟩
    have hke : k = cnt := by omega
    subst hke
    rw [f_X6_namesColumnsBelow_l2, if_pos ((nle (by omega) (by omega)).mpr (Nat.le_refl _)), if_pos hp]
  | succ d ih =>
    intro k fu hd hk hfu hp
    obtain ⟨fu, rfl⟩ : ∃ q, fu = q + 1 := ⟨fu - 1, by omega⟩
    have hdl : dg cnt nd k < 10 := dg_lt _ _ _
    rw [f_X6_namesColumnsBelow_l2, if_neg (fun q => by have := (nle (by omega) (by omega)).mp q; omega), if_neg (show ¬ (4 : Int32) ≤ nI k from fun q => by have := (nle (a := 4) (b := k) (by omega) (by omega)).mp q; omega), key_digit hc (by omega), bnd_s]
    by_cases h1 : dg cnt nd k < f
    · rw [if_pos ((nlt (by omega) (by omega)).mpr h1), nI_1]
      exact ih (k + 1) fu (by omega) (by omega) (by omega) fun i hi => by
        by_cases hik : i = k
        · subst hik; exact h1
        · exact hp i (by omega)
    · rw [if_neg (fun q => h1 ((nlt (by omega) (by omega)).mp q)), if_neg (fun q => h1 (q k (by omega)))]
theorem nek {P : Prop} {i j : Nat} (h : i = j) (hd : (i == j) = false) : P := by
  subst h
  simp at hd
theorem wfn_app {A L : List Nd} {m : Nat} (h : wfn (A ++ L) m) : ∃ k, wfn L k := by
  induction A generalizing m with
  | nil => exact ⟨m, h⟩
  | cons nd A ih =>
    obtain ⟨j, _, h2⟩ := h
    exact ih h2
theorem wfn_suf {pre : List Nd} (h : wfn pre 1) (k : Nat) : ∃ u, wfn (pre.drop k) u := by
  rw [← List.take_append_drop k pre] at h
  exact wfn_app h
theorem q_wn {n : Nat} {Z : Zt} {q s k f s2 : Nat} {b : Nat → Nat} {pre : List Nd} {nd : Nd} {g : Mem} (hn : 40 ≤ n) (hb : BOk b) (hZ : QZ Z q) (hZs : SZ Z s) (hQ : QIs g q pre) (hS : StIs g s b) (hk : k < pre.length) (hnd : pre.getD k (0, 0, 0) = nd) (hN : NOk nd) (hf : f ≤ 4) (hs : s2 ≤ 4) :
    ∃ w, f_X6_widthOfNode n Z q (nI k) (nI f) (nI s2) s g = some (nI w, g) ∧ w < 9 ∧ (NFit nd f s2 → w = opW b nd f s2) ∧ (¬ NFit nd f s2 → w = 0 ∨ 4 < w) := by
  have y1 := q_first (n := n) hZ hQ hk
  have y2 := q_second (n := n) hZ hQ hk
  have y3 := q_kind (n := n) hZ hQ hk
  rw [hnd] at y1 y2 y3
  unfold f_X6_widthOfNode
  rw [grd_t hZ.k, y1, bnd_s, y2, bnd_s, y3, bnd_s]
  obtain ⟨kd, a, c⟩ := nd
  have hk' : kd = 0 ∧ a < 4 ∧ c = 0 ∨ kd = 1 ∧ a < 4 ∧ c < 10 ∨ kd = 2 ∧ a < 4 ∧ c < 4 ∨ kd = 3 ∧ 1 ≤ a ∧ a ≤ 4 ∧ c < 10 ^ a ∧ (∀ i, i < a → dg a c i < 4) ∨ kd = 4 ∧ a < 4 ∧ c < 4 ∨ kd = 5 ∧ a = 0 ∧ c = 0 := hN
  show ∃ w, (if nI kd = 0 then _ else _) = _ ∧ _
  rcases hk' with ⟨q, q1, q2⟩ | ⟨q, q1, q2⟩ | ⟨q, q1, q2⟩ | ⟨q, q1, q2, q3, q4⟩ | ⟨q, q1, q2⟩ | ⟨q, q1, q2⟩ <;> subst q
  · rw [if_pos (show nI 0 = 0 from rfl)]
    have := (hb.1 a q1).2
    refine ⟨b a, ?_, by omega, fun _ => rfl, fun h => absurd ⟨fun z => nek z rfl, fun z => nek z rfl, fun z => nek z rfl, fun z => nek z rfl, fun z => nek z rfl⟩ h⟩
    show bnd (f_X8_widthOf n Z s (nI a) g) _ = _
    rw [s_width hZs hS q1, bnd_s]
  · rw [if_neg (show ¬ nI 1 = 0 by decide), if_pos (show nI 1 = 1 from rfl)]
    show ∃ w, (if nI f ≤ nI a then _ else _) = _ ∧ _
    by_cases h : a < f
    · rw [if_neg (fun z => by have := (nle (by omega) (by omega)).mp z; omega)]
      exact ⟨f, rfl, by omega, fun _ => rfl, fun h' => absurd ⟨fun _ => h, fun z => nek z rfl, fun z => nek z rfl, fun z => nek z rfl, fun z => nek z rfl⟩ h'⟩
    · rw [if_pos ((nle (by omega) (by omega)).mpr (by omega))]
      exact ⟨0, rfl, by omega, fun h' => absurd (h'.1 rfl) h, fun _ => Or.inl rfl⟩
  · rw [if_neg (show ¬ nI 2 = 0 by decide), if_neg (show ¬ nI 2 = 1 by decide), if_pos (show nI 2 = 2 from rfl)]
    show ∃ w, (if nI f ≤ nI a then _ else (if nI f ≤ nI c then _ else _)) = _ ∧ _
    by_cases h : a < f
    · rw [if_neg (fun z => by have := (nle (by omega) (by omega)).mp z; omega)]
      by_cases h2 : c < f
      · rw [if_neg (fun z => by have := (nle (by omega) (by omega)).mp z; omega)]
        exact ⟨f, rfl, by omega, fun _ => rfl, fun h' => absurd ⟨fun z => nek z rfl, fun _ => ⟨h, h2⟩, fun z => nek z rfl, fun z => nek z rfl, fun z => nek z rfl⟩ h'⟩
      · rw [if_pos ((nle (by omega) (by omega)).mpr (by omega))]
        exact ⟨0, rfl, by omega, fun h' => absurd (h'.2.1 rfl).2 h2, fun _ => Or.inl rfl⟩
    · rw [if_pos ((nle (by omega) (by omega)).mpr (by omega))]
      exact ⟨0, rfl, by omega, fun h' => absurd (h'.2.1 rfl).1 h, fun _ => Or.inl rfl⟩
  · rw [if_neg (show ¬ nI 3 = 0 by decide), if_neg (show ¬ nI 3 = 1 by decide), if_neg (show ¬ nI 3 = 2 by decide), if_pos (show nI 3 = 3 from rfl)]
    have e : f_X6_namesColumnsBelow n Z (nI f) (nI a) (nI (pk c)) g = some (if ∀ i, i < a → dg a c i < f then 1 else 0, g) := ncb_l2 (n := n) hf q2 a 0 n (by omega) (by omega) (by omega) fun i hi => by omega
    show ∃ w, bnd (f_X6_namesColumnsBelow n Z (nI f) (nI a) (nI (pk c)) g) _ = _ ∧ _
    rw [e, bnd_s]
    by_cases h : ∀ i, i < a → dg a c i < f
    · refine ⟨a, ?_, by omega, fun _ => rfl, fun h' => absurd ⟨fun z => nek z rfl, fun z => nek z rfl, fun _ => h, fun z => nek z rfl, fun z => nek z rfl⟩ h'⟩
      rw [if_pos h]; exact if_neg i10
    · refine ⟨0, ?_, by omega, fun h' => absurd (h'.2.2.1 rfl) h, fun _ => Or.inl rfl⟩
      rw [if_neg h]; exact if_pos rfl
  · rw [if_neg (show ¬ nI 4 = 0 by decide), if_neg (show ¬ nI 4 = 1 by decide), if_neg (show ¬ nI 4 = 2 by decide), if_neg (show ¬ nI 4 = 3 by decide), if_pos (show nI 4 = 4 from rfl)]
    show ∃ w, (if nI f ≤ nI a then _ else (if nI s2 ≤ nI c then _ else _)) = _ ∧ _
    by_cases h : a < f
    · rw [if_neg (fun z => by have := (nle (by omega) (by omega)).mp z; omega)]
      by_cases h2 : c < s2
      · rw [if_neg (fun z => by have := (nle (by omega) (by omega)).mp z; omega)]
        refine ⟨f + s2, by rw [nI_add], by omega, fun _ => rfl, fun h' => Or.inr ?_⟩
        by_cases h3 : f + s2 ≤ 4
        · exact absurd ⟨fun z => nek z rfl, fun z => nek z rfl, fun z => nek z rfl, fun _ => ⟨h, h2, h3⟩, fun z => nek z rfl⟩ h'
        · omega
      · rw [if_pos ((nle (by omega) (by omega)).mpr (by omega))]
        exact ⟨0, rfl, by omega, fun h' => absurd (h'.2.2.2.1 rfl).2.1 h2, fun _ => Or.inl rfl⟩
    · rw [if_pos ((nle (by omega) (by omega)).mpr (by omega))]
      exact ⟨0, rfl, by omega, fun h' => absurd (h'.2.2.2.1 rfl).1 h, fun _ => Or.inl rfl⟩
  · rw [if_neg (show ¬ nI 5 = 0 by decide), if_neg (show ¬ nI 5 = 1 by decide), if_neg (show ¬ nI 5 = 2 by decide), if_neg (show ¬ nI 5 = 3 by decide), if_neg (show ¬ nI 5 = 4 by decide), if_pos (show nI 5 = 5 from rfl)]
    by_cases h : f = s2
    · rw [if_pos (by rw [h])]
      exact ⟨f, rfl, by omega, fun _ => rfl, fun h' => absurd ⟨fun z => nek z rfl, fun z => nek z rfl, fun z => nek z rfl, fun z => nek z rfl, fun _ => h⟩ h'⟩
    · rw [if_neg (fun z => h ((neq (by omega) (by omega)).mp z))]
      exact ⟨0, rfl, by omega, fun h' => absurd (h'.2.2.2.2 rfl) h, fun _ => Or.inl rfl⟩
/-- fits (the class) -/
theorem fits_l9 {n : Nat} {Z : Zt} {q s : Nat} {b : Nat → Nat} {pre : List Nd} (hn : 40 ≤ n) (hb : BOk b) (hZ : QZ Z q) (hZs : SZ Z s) (hN : ∀ x ∈ pre, NOk x) (hw : wfn pre 1) (ho : ownL pre ≤ 60) (hd : s + 8 ≤ q + 4 ∨ q + 5 ≤ s) : ∀ (k fu : Nat) (g : Mem) (st : List Nat), k ≤ pre.length → k < fu → QIs g q pre → StIs g s b → WsIs g (q + 4) st → (∀ x ∈ st, 1 ≤ x ∧ x ≤ 4) → crun (hW b) 0 (pre.drop k) [] = some st → wfn (pre.drop k) st.length →
    ∃ g', f_X6_fits_l9 n Z q fu s (nI st.length) (nI k + (-1)) g = some (if (crun (hW b) 0 pre []).isSome then 1 else 0, g') ∧ Fr (q + 4) (q + 5) g g' := by
  intro k
  induction k with
  | zero =>
    intro fu g st hk hfu hQ hS hWs hst hc hwf
    obtain ⟨fu, rfl⟩ : ∃ q, fu = q + 1 := ⟨fu - 1, by omega⟩
    rw [List.drop_zero] at hc
    rw [f_X6_fits_l9, if_pos (by decide), hc]
    exact ⟨g, rfl, Fr.rfl⟩
  | succ k ih =>
    intro fu g st hk hfu hQ hS hWs hst hc hwf
    obtain ⟨fu, rfl⟩ : ∃ q, fu = q + 1 := ⟨fu - 1, by omega⟩
    have hkl : k < pre.length := by omega
    obtain ⟨nd, hnd⟩ : ∃ nd, nd = pre.getD k (0, 0, 0) := ⟨_, rfl⟩
    have hdr : pre.drop k = nd :: pre.drop (k + 1) := hnd ▸ drop_one _ _ _ hkl
    have hl60 : pre.length ≤ 60 := hQ.2.1
    have hmem : nd ∈ pre := hnd ▸ getD_mem hkl
    have hNk := hN nd hmem
    have hl12 : st.length ≤ 12 := depth12 hw ho hwf
    -- the widths on top
    obtain ⟨f, hfe⟩ : ∃ f, f = st.getD 0 0 := ⟨_, rfl⟩
    obtain ⟨s2, hse⟩ : ∃ f, f = st.getD 1 0 := ⟨_, rfl⟩
    have hf4 : f ≤ 4 := hfe ▸ ws_le hst 0
    have hs4 : s2 ≤ 4 := hse ▸ ws_le hst 1
    obtain ⟨w, w1, w2, w3, w4⟩ := q_wn (n := n) (f := f) (s2 := s2) hn hb hZ hZs hQ hS hkl hnd.symm hNk hf4 hs4
    have hwk : wfn (pre.drop k) (st.length - ar nd.1 + 1) ∧ ar nd.1 ≤ st.length := by
      obtain ⟨u, hu⟩ : ∃ u, wfn (pre.drop k) u := by
        have h2 := wfn_suf hw k
        exact h2
      rw [hdr] at hu ⊢
      obtain ⟨j, e1, e2⟩ := hu
      have := wfn_uniq e2 hwf
      exact ⟨⟨j, by omega, e2⟩, by omega⟩
    have har := hwk.2
    have hq3 := q_kind (n := n) hZ hQ hkl
    rw [← hnd] at hq3
    have e0 : f_X6_fits_l9 n Z q (fu + 1) s (nI st.length) (nI (k + 1) + (-1)) g = f_X6_fits_l48 n Z (fun y0 y1 y2 y => f_X6_fits_l9 n Z q fu y0 y1 y2 y) q s (nI st.length) (nI k) (nI f) (nI s2) g := by
      rw [show nI (k + 1) + (-1 : Int32) = nI k from m1N (k := k + 1) (by omega), f_X6_fits_l9, if_neg (show ¬ nI k < 0 from fun z => nI_nlt (a := k) (b := 0) (Nat.zero_le _) (by omega) z)]
      have e29 : f_X6_fits_l29 n Z (fun y0 y1 y2 y => f_X6_fits_l9 n Z q fu y0 y1 y2 y) q s (nI st.length) (nI k) (nI f) g = f_X6_fits_l48 n Z (fun y0 y1 y2 y => f_X6_fits_l9 n Z q fu y0 y1 y2 y) q s (nI st.length) (nI k) (nI f) (nI s2) g := by
        unfold f_X6_fits_l29
        by_cases h1 : st.length ≤ 1
        · rw [if_pos (show nI st.length ≤ (1 : Int32) from (nle (b := 1) (by omega) (by omega)).mpr h1), hse, getD_big h1]; rfl
        · have hat := hWs.at (i := 1) (by omega)
          have e2 : nI st.length - (2 : Int32) = nI (st.length - 2) := subN (a := st.length) (b := 2) (by omega)
          rw [show st.length - 1 - 1 = st.length - 2 by omega, ← hse] at hat
          rw [if_neg (show ¬ nI st.length ≤ (1 : Int32) from fun z => h1 ((nle (b := 1) (by omega) (by omega)).mp z))]
          simp (disch := omega) only [hZ.f3, hZ.k3, hZ.l3, drf_s, grd_t, grd_true, e2, inr_eq, clamp, hat]
      by_cases h0 : st.length ≤ 0
      · rw [if_pos (show nI st.length ≤ (0 : Int32) from (nle (b := 0) (by omega) (by omega)).mpr h0), ← e29, hfe, getD_big h0]; rfl
      · have hat := hWs.at (i := 0) (by omega)
        have e2 : nI st.length - (1 : Int32) = nI (st.length - 1) := subN (a := st.length) (b := 1) (by omega)
        rw [show st.length - 1 - 0 = st.length - 1 by omega, ← hfe] at hat
        rw [if_neg (show ¬ nI st.length ≤ (0 : Int32) from fun z => h0 ((nle (b := 0) (by omega) (by omega)).mp z))]
        simp (disch := omega) only [hZ.f3, hZ.k3, hZ.l3, drf_s, grd_t, grd_true, e2, inr_eq, clamp, hat]
        exact e29
    rw [e0]
    have e1 : f_X6_fits_l48 n Z (fun y0 y1 y2 y => f_X6_fits_l9 n Z q fu y0 y1 y2 y) q s (nI st.length) (nI k) (nI f) (nI s2) g = if nI w < (1 : Int32) then some (0, g) else if (4 : Int32) < nI w then some (0, g) else f_X6_fits_l9 n Z q fu s (nI (st.length - ar nd.1) + 1) (nI k + (-1)) (sI g (q + 4) (st.length - ar nd.1) (nI w)) := by
      unfold f_X6_fits_l48
      have e2 : nI st.length - nI (ar nd.1) = nI (st.length - ar nd.1) := subN har
      rw [w1, bnd_s, hq3, bnd_s, q_parts hNk.k, bnd_s, e2, if_neg (show ¬ nI (st.length - ar nd.1) < 0 from fun z => nI_nlt (a := st.length - ar nd.1) (b := 0) (Nat.zero_le _) (by omega) z), if_pos (show nI (st.length - ar nd.1) < (60 : Int32) from (nlt (b := 60) (by omega) (by omega)).mpr (by omega))]
      simp (disch := omega) only [hZ.f3, hZ.k3, hZ.l3, drf_s, grd_t, grd_true, inr_eq, clamp]
    rw [e1]
    have hcst : crun (hW b) 0 (pre.drop k) [] = (hW b nd f s2).map fun x => x :: st.drop (ar nd.1) := by
      rw [hdr]
      show (crun (hW b) 0 (pre.drop (k + 1)) []).bind _ = _
      rw [hc]
      show cst (hW b) 0 nd st = _
      unfold cst
      rw [if_neg (by omega), ← hfe, ← hse]
    by_cases hfit : NFit nd f s2
    · have hwe := w3 hfit
      have hWs' : hW b nd f s2 = some w := by rw [hW_fit hfit, hwe]
      have hwr : 1 ≤ w ∧ w ≤ 4 := by
        have h5 : nd.1 = 5 → 1 ≤ f := fun z => by
          have : ar nd.1 = 2 := by unfold ar; rw [if_neg (by omega), if_pos (Or.inr z)]
          exact hfe ▸ ws_pos hst (by omega)
        rcases hW_rng hb hNk h5 hWs' with h | ⟨h, h'⟩ | ⟨h, h'⟩ | ⟨h, h'⟩
        · exact h
        · have := hfit.1 h; omega
        · have := (hfit.2.1 h).1; omega
        · have := h5 h; omega
      rw [if_neg (show ¬ nI w < (1 : Int32) from fun z => by have := (nlt (b := 1) (by omega) (by omega)).mp z; omega), if_neg (show ¬ (4 : Int32) < nI w from fun z => by have := (nlt (a := 4) (by omega) (by omega)).mp z; omega), nI_1]
      have hlen : (w :: st.drop (ar nd.1)).length = st.length - ar nd.1 + 1 := by rw [List.length_cons, List.length_drop]
      have hF : Fr (q + 4) (q + 5) g (sI g (q + 4) (st.length - ar nd.1) (nI w)) := Fr.rfl.sI (by omega) (by omega)
      have hcC : Ch (fun b j => b = q + 4 ∧ j = st.length - ar nd.1) g (sI g (q + 4) (st.length - ar nd.1) (nI w)) := Ch.rfl.sI ⟨rfl, rfl⟩
      obtain ⟨g', c1, c2⟩ := ih fu (sI g (q + 4) (st.length - ar nd.1) (nI w)) (w :: st.drop (ar nd.1)) (by omega) (by omega) (hQ.fr hF (by omega)) (hS.fr hF (by omega)) ⟨by rw [List.length_drop, gI_sI, if_pos ⟨rfl, rfl⟩], (hWs.drop _).ch hcC fun j hj => by rw [List.length_drop] at hj; omega⟩ (fun x hx => by
        rcases List.mem_cons.mp hx with z | z
        · subst z; exact hwr
        · exact hst x (List.mem_of_mem_drop z)) (by rw [hcst, hWs']; rfl) (by rw [hlen]; exact hwk.1)
      rw [hlen] at c1
      exact ⟨g', c1, hF.trans c2⟩
    · have hno : (crun (hW b) 0 pre []).isSome = false := by
        cases hq : crun (hW b) 0 pre [] with
        | none => rfl
        | some v =>
          obtain ⟨u, hu⟩ := crun_suf hq k
          rw [hcst, hW_not hfit] at hu
          cases hu
      rw [hno]
      refine ⟨g, ?_, Fr.rfl⟩
      rcases w4 hfit with h | h
      · subst h
        rw [if_pos (show nI 0 < (1 : Int32) by decide)]; rfl
      · by_cases h1 : nI w < (1 : Int32)
        · rw [if_pos h1]; rfl
        · rw [if_neg h1, if_pos (show (4 : Int32) < nI w from (nlt (a := 4) (by omega) (by omega)).mpr h)]; rfl
theorem c_fits {n : Nat} {Z : Zt} {q s : Nat} {b : Nat → Nat} {pre : List Nd} {g : Mem} (hn : 100 ≤ n) (hb : BOk b) (hZ : QZ Z q) (hZs : SZ Z s) (hN : ∀ x ∈ pre, NOk x) (hw : wfn pre 1) (ho : ownL pre ≤ 60) (hd : s + 8 ≤ q + 4 ∨ q + 5 ≤ s) (hQ : QIs g q pre) (hS : StIs g s b) :
    ∃ g', f_X6_fits n Z q s g = some (if (qw b pre).isSome then 1 else 0, g') ∧ Fr (q + 4) (q + 5) g g' := by
  obtain ⟨g', e, f⟩ := fits_l9 (n := n) (by omega) hb hZ hZs hN hw ho hd pre.length n g [] (Nat.le_refl _) (by have := hQ.2.1; omega) hQ hS trivial (fun x hx => by cases hx) (by rw [List.drop_length]; rfl) (by rw [List.drop_length]; rfl)
  refine ⟨g', ?_, f⟩
  have hrun := (run_agree (hW_ign b) (d := 0) hw).1
  have hsome : (crun (hW b) 0 pre []).isSome = (qw b pre).isSome := by
    rw [hrun]
    show (Option.map _ (qw b pre)).isSome = _
    cases qw b pre <;> rfl
  rw [hsome] at e
  unfold f_X6_fits
  rw [grd_t hZ.k, hQ.1, ← m1S]
  exact e

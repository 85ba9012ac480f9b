/-! works (the reference) -/
def MStk (g : Mem) (m : Nat) : List Vl → Prop
  | [] => True
  | v :: st => MR g m st.length v.1 v.2 ∧ MStk g m st
theorem MStk.ch {g g' : Mem} {m σ : Nat} (hF : Ch (pW m σ) g g') : ∀ {st : List Vl}, st.length ≤ σ → MStk g m st → MStk g' m st
  | [], _, _ => trivial
  | v :: st, h, hS => ⟨hS.1.ch hF fun b j q1 q2 => pQ_nW (by simp only [List.length_cons] at h; omega) q1 q2, MStk.ch hF (by simp only [List.length_cons] at h; omega) hS.2⟩
theorem MStk.drop {g : Mem} {m : Nat} : ∀ {st : List Vl} (k : Nat), MStk g m st → MStk g m (st.drop k)
  | [], k, _ => by simp [MStk]
  | v :: st, 0, h => h
  | v :: st, k + 1, h => MStk.drop k h.2
theorem MStk.at {g : Mem} {m : Nat} : ∀ {st : List Vl} {i : Nat}, i < st.length → MStk g m st → MR g m (st.length - 1 - i) (st.getD i dV).1 (st.getD i dV).2
  | [], _, h, _ => absurd h (Nat.not_lt_zero _)
  | v :: st, 0, _, h => h.1
  | v :: st, i + 1, hi, h => by
    have := MStk.at (st := st) (i := i) (by simpa using hi) h.2
    have e : (v :: st).length - 1 - (i + 1) = st.length - 1 - i := by simp only [List.length_cons]; omega
    rw [e]; exact this
def SIs (g : Mem) (m : Nat) (L : List Nd) : Prop := gI g m 12 = nI L.length ∧ ∀ k, k < L.length → StepAt g m k (L.getD k (0, 0, 0))
/-- one step -/
theorem m_step {n : Nat} {Z : Zt} {m i N fu : Nat} {b : Nat → Nat} {nd : Nd} {st : List Vl} {g : Mem} (hn : 40 ≤ n) (hZ : MZ Z m) (hb : BOk b) (hB : BIs g m b) (hi : i < N) (hN : N ≤ 60) (h12 : gI g m 12 = nI N) (hT : StepAt g m i nd) (hk : NOk nd) (hl : st.length ≤ 12) (ha : ar nd.1 ≤ st.length) (hv : ∀ v ∈ st, VOk v) (hf : NFit nd (st.getD (ar nd.1 - 1) dV).1 (st.getD 0 dV).1) (hS : MStk g m st) (h0 : gI g m 25 = 0) (h24 : gI g m 24 = nI st.length) :
    ∃ g', f_X11_works_l12 n Z m (fu + 1) (nI i) g = f_X11_works_l12 n Z m fu (nI (i + 1)) g' ∧ MS g' m (st.length - ar nd.1) (opW b nd (st.getD (ar nd.1 - 1) dV).1 (st.getD 0 dV).1) (rAddL [] (opL b nd (st.getD (ar nd.1 - 1) dV) (st.getD 0 dV))) ∧ gI g' m 24 = nI (st.length - ar nd.1 + 1) ∧ Ch (pW m (st.length - ar nd.1)) g g' := by
  have t1 := hT.1
  have t2 := hT.2.1
  have e0 : f_X11_works_l12 n Z m (fu + 1) (nI i) g = (if nI (kc nd.1) = 61 then (bnd (f_X11_selects n Z m (nI i) g) (fun _ g13 => f_X11_works_l12 n Z m fu (nI (i + 1)) g13)) else (if nI (kc nd.1) = 65 then (bnd (f_X11_pilesTable n Z m (nI nd.2.1) g) (fun _ g20 => f_X11_works_l12 n Z m fu (nI (i + 1)) g20)) else (if nI (kc nd.1) = 106 then (bnd (f_X11_joins n Z m (nI i) g) (fun _ g23 => f_X11_works_l12 n Z m fu (nI (i + 1)) g23)) else (if nI (kc nd.1) = 112 then (bnd (f_X11_projects n Z m (nI i) g) (fun _ g26 => f_X11_works_l12 n Z m fu (nI (i + 1)) g26)) else (if nI (kc nd.1) = 126 then (bnd (f_X11_selects n Z m (nI i) g) (fun _ g29 => f_X11_works_l12 n Z m fu (nI (i + 1)) g29)) else (bnd (f_X11_unites n Z m g) (fun _ g32 => f_X11_works_l12 n Z m fu (nI (i + 1)) g32))))))) := by
    rw [f_X11_works_l12]
    simp (disch := omega) only [h12, nle, if_neg, if_pos h0, hZ.f9, hZ.k9, hZ.l9, hZ.f10, hZ.k10, hZ.l10, drf_s, grd_t, grd_true, inr_eq, clamp, t1, t2, nI_1]
  have fin : ∀ {f : Option (Unit × Mem)} {σ w : Nat} {o : Option Rws}, MDone f g m σ w o → ∃ g', (bnd f fun _ g13 => f_X11_works_l12 n Z m fu (nI (i + 1)) g13) = f_X11_works_l12 n Z m fu (nI (i + 1)) g' ∧ MS g' m σ w o ∧ gI g' m 24 = nI (σ + 1) ∧ Ch (pW m σ) g g' := by
    intro f σ w o ⟨g', e, a, b, c⟩
    exact ⟨g', by rw [e, bnd_s], a, b, c⟩
  rw [e0]
  obtain ⟨kd, a, c⟩ := nd
  have hk' : kd = 0 ∧ a < 4 ∧ c = 0 ∨ kd = 1 ∧ a < 4 ∧ c < 10 ∨ kd = 2 ∧ a < 4 ∧ c < 4 ∨ kd = 3 ∧ 1 ≤ a ∧ a ≤ 4 ∧ c < 10 ^ a ∧ (∀ i, i < a → dg a c i < 4) ∨ kd = 4 ∧ a < 4 ∧ c < 4 ∨ kd = 5 ∧ a = 0 ∧ c = 0 := hk
  rcases hk' with ⟨q, q1, q2⟩ | ⟨q, q1, q2⟩ | ⟨q, q1, q2⟩ | ⟨q, q1, q2, q3, q4⟩ | ⟨q, q1, q2⟩ | ⟨q, q1, q2⟩
  · subst q
    rw [if_neg (show ¬ nI (kc 0) = 61 by decide), if_pos (show nI (kc 0) = 65 by decide)]
    obtain ⟨g', e, x, y, z⟩ := piles (n := n) (ρ := st.length) hn hZ (by omega) hb q1 h0 h24 hB
    exact ⟨g', by rw [show f_X11_pilesTable n Z m (nI (0, a, c).2.1) g = _ from e, bnd_s], x, y, z⟩
  · subst q
    have har : 1 ≤ st.length := ha
    have hM := hS.at (i := 0) (by omega)
    have hV : VOk (st.getD 0 dV) := vok_get hv (by omega)
    rw [if_pos (show nI (kc 1) = 61 by decide)]
    have e1 : st.length - 1 + 1 = st.length := by omega
    have hd := selects_ (n := n) (kind := 1) hn hZ (show st.length - 1 < 13 by omega) (show i < 60 by omega) hV.2.1 (hf.1 rfl) (Or.inl ⟨rfl, q2⟩) h0 (by rw [e1]; exact h24) hM hT
    exact fin hd
  · subst q
    have har : 1 ≤ st.length := ha
    have hM := hS.at (i := 0) (by omega)
    have hV : VOk (st.getD 0 dV) := vok_get hv (by omega)
    rw [if_neg (show ¬ nI (kc 2) = 61 by decide), if_neg (show ¬ nI (kc 2) = 65 by decide), if_neg (show ¬ nI (kc 2) = 106 by decide), if_neg (show ¬ nI (kc 2) = 112 by decide), if_pos (show nI (kc 2) = 126 by decide)]
    have e1 : st.length - 1 + 1 = st.length := by omega
    have hd := selects_ (n := n) (kind := 2) hn hZ (show st.length - 1 < 13 by omega) (show i < 60 by omega) hV.2.1 (hf.2.1 rfl).1 (Or.inr ⟨rfl, (hf.2.1 rfl).2⟩) h0 (by rw [e1]; exact h24) hM hT
    exact fin hd
  · subst q
    have har : 1 ≤ st.length := ha
    have hM := hS.at (i := 0) (by omega)
    have hV : VOk (st.getD 0 dV) := vok_get hv (by omega)
    rw [if_neg (show ¬ nI (kc 3) = 61 by decide), if_neg (show ¬ nI (kc 3) = 65 by decide), if_neg (show ¬ nI (kc 3) = 106 by decide), if_pos (show nI (kc 3) = 112 by decide)]
    have e1 : st.length - 1 + 1 = st.length := by omega
    have hd := projects_ (n := n) hn hZ (show st.length - 1 < 13 by omega) (show i < 60 by omega) hV.2.1 q2 q1 (hf.2.2.1 rfl) h0 (by rw [e1]; exact h24) hM hT
    exact fin hd
  · subst q
    have har : 2 ≤ st.length := ha
    have hM0 := hS.at (i := 0) (by omega)
    have hM1 := hS.at (i := 1) (by omega)
    have hV0 : VOk (st.getD 0 dV) := vok_get hv (by omega)
    have hV1 : VOk (st.getD 1 dV) := vok_get hv (by omega)
    rw [if_neg (show ¬ nI (kc 4) = 61 by decide), if_neg (show ¬ nI (kc 4) = 65 by decide), if_pos (show nI (kc 4) = 106 by decide)]
    have e1 : st.length - 2 + 2 = st.length := by omega
    have e2 : st.length - 1 - 0 = st.length - 2 + 1 := by omega
    have e3 : st.length - 1 - 1 = st.length - 2 := by omega
    rw [e2] at hM0
    rw [e3] at hM1
    have hff := hf.2.2.2.1 rfl
    have hd := joins_ (n := n) hn hZ (show st.length - 2 < 12 by omega) (show i < 60 by omega) hff.2.2 hff.1 hff.2.1 hV1.2.2 hV0.2.2 h0 (by rw [e1]; exact h24) hM1 hM0 hT
    exact fin hd
  · subst q
    have har : 2 ≤ st.length := ha
    have hM0 := hS.at (i := 0) (by omega)
    have hM1 := hS.at (i := 1) (by omega)
    rw [if_neg (show ¬ nI (kc 5) = 61 by decide), if_neg (show ¬ nI (kc 5) = 65 by decide), if_neg (show ¬ nI (kc 5) = 106 by decide), if_neg (show ¬ nI (kc 5) = 112 by decide), if_neg (show ¬ nI (kc 5) = 126 by decide)]
    have e1 : st.length - 2 + 2 = st.length := by omega
    have e2 : st.length - 1 - 0 = st.length - 2 + 1 := by omega
    have e3 : st.length - 1 - 1 = st.length - 2 := by omega
    rw [e2] at hM0
    rw [e3] at hM1
    have hd := unites_ (n := n) hn hZ (show st.length - 2 < 12 by omega) h0 (by rw [e1]; exact h24) hM1 hM0
    exact fin hd
theorem drop_len_ar {st : List Vl} {k : Nat} (h : k ≤ st.length) : (st.drop k).length = st.length - k := List.length_drop ..
/-- how works ends -/
def WkRes (f : Option (Int32 × Mem)) (g : Mem) (m : Nat) (o : Option (List Vl)) : Prop := ∃ g', Ch (pW m 0) g g' ∧ match o with
  | some st => f = some (1, g') ∧ MStk g' m st
  | none => f = some (0, g')
theorem getD_map_fst (st : List Vl) (i : Nat) : (st.map Prod.fst).getD i 0 = (st.getD i dV).1 := by
  induction st generalizing i with
  | nil => rfl
  | cons x l ih => cases i with
    | zero => rfl
    | succ i => exact ih i
theorem works_l12 {n : Nat} {Z : Zt} {m : Nat} {b : Nat → Nat} {L : List Nd} (hn : 40 ≤ n) (hZ : MZ Z m) (hb : BOk b) (hN : L.length ≤ 60) (hk : ∀ x ∈ L, NOk x) : ∀ (d i fu : Nat) (g : Mem) (st : List Vl), d = L.length - i → i ≤ L.length → d < fu → BIs g m b → SIs g m L → (∀ v ∈ st, VOk v) → MStk g m st → gI g m 25 = 0 → gI g m 24 = nI st.length → mdp st.length (L.drop i) 1 → st.length + ownL (L.drop i) ≤ 60 → (∃ ws, mrun (hW b) 0 (L.drop i) (st.map Prod.fst) = some ws) →
    WkRes (f_X11_works_l12 n Z m fu (nI i) g) g m (mrun (hV b) dV (L.drop i) st) := by
  intro d
  induction d with
  | zero =>
    intro i fu g st hd hi hfu hB hL hv hS h0 h24 hdp hol hw
    obtain ⟨fu, rfl⟩ : ∃ q, fu = q + 1 := ⟨fu - 1, by omega⟩
    have hie : i = L.length := by omega
    subst hie
    rw [List.drop_length]
    refine ⟨g, Ch.rfl, ?_, hS⟩
    have h12 := hL.1
    rw [f_X11_works_l12]
    simp (disch := omega) only [h12, nle, if_pos]
    unfold f_X11_works_l131
    rw [if_pos h0]
  | succ d ih =>
    intro i fu g st hd hi hfu hB hL hv hS h0 h24 hdp hol hw
    obtain ⟨fu, rfl⟩ : ∃ q, fu = q + 1 := ⟨fu - 1, by omega⟩
    have hiL : i < L.length := by omega
    obtain ⟨nd, hnd⟩ : ∃ nd, nd = L.getD i (0, 0, 0) := ⟨_, rfl⟩
    have hdr : L.drop i = nd :: L.drop (i + 1) := hnd ▸ drop_one _ _ _ hiL
    rw [hdr] at hdp hol hw ⊢
    have hmem : nd ∈ L := by
      have : nd ∈ L.drop i := by rw [hdr]; exact List.mem_cons_self ..
      exact List.mem_of_mem_drop this
    have hNk := hk nd hmem
    have hown := (own_ar nd).1
    have hol' : st.length + (own nd + ownL (L.drop (i + 1))) ≤ 60 := hol
    have hdn := mdp_down hdp
    have hdn' : 4 * st.length ≤ 4 * 1 + (own nd + ownL (L.drop (i + 1))) := hdn
    have hl12 : st.length ≤ 12 := by omega
    have har : ar nd.1 ≤ st.length := hdp.1
    obtain ⟨ws, hws⟩ := hw
    have hnW : ¬ (st.map Prod.fst).length < ar nd.1 := by rw [List.length_map]; omega
    have hwst : mst (hW b) 0 nd (st.map Prod.fst) = (hW b nd (st.getD (ar nd.1 - 1) dV).1 (st.getD 0 dV).1).map fun x => x :: (st.drop (ar nd.1)).map Prod.fst := by
      unfold mst
      rw [if_neg hnW, getD_map_fst, getD_map_fst, List.map_drop]
    have hwf : ∃ w, hW b nd (st.getD (ar nd.1 - 1) dV).1 (st.getD 0 dV).1 = some w := by
      cases hq : hW b nd (st.getD (ar nd.1 - 1) dV).1 (st.getD 0 dV).1 with
      | some w => exact ⟨w, rfl⟩
      | none =>
        have : mrun (hW b) 0 (nd :: L.drop (i + 1)) (st.map Prod.fst) = none := by
          show (mst (hW b) 0 nd (st.map Prod.fst)).bind _ = none
          rw [hwst, hq]; rfl
        rw [this] at hws; cases hws
    obtain ⟨w, hw⟩ := hwf
    obtain ⟨hfit, hwe⟩ := hW_some hw
    have hT : StepAt g m i nd := hnd ▸ hL.2 i hiL
    obtain ⟨g1, e1, s1, s2, s3⟩ := m_step (n := n) (fu := fu) hn hZ hb hB hiL hN hL.1 hT hNk hl12 har hv hfit hS h0 h24
    rw [e1]
    have hvst : mst (hV b) dV nd st = (hV b nd (st.getD (ar nd.1 - 1) dV) (st.getD 0 dV)).map fun x => x :: st.drop (ar nd.1) := by
      unfold mst
      rw [if_neg (by omega)]
    show WkRes _ _ _ ((mst (hV b) dV nd st).bind (mrun (hV b) dV (L.drop (i + 1))))
    rw [hvst]
    have hlen : (st.drop (ar nd.1)).length = st.length - ar nd.1 := drop_len_ar har
    have hFm : Ch (pW m 0) g g1 := s3.mono fun b j q => by unfold pW at q ⊢; omega
    have hH : hV b nd (st.getD (ar nd.1 - 1) dV) (st.getD 0 dV) = (rAddL [] (opL b nd (st.getD (ar nd.1 - 1) dV) (st.getD 0 dV))).map fun rows => (opW b nd (st.getD (ar nd.1 - 1) dV).1 (st.getD 0 dV).1, rows) := rfl
    cases hr : rAddL [] (opL b nd (st.getD (ar nd.1 - 1) dV) (st.getD 0 dV)) with
    | none =>
      rw [hH, hr]
      rw [hr] at s1
      have h25 : gI g1 m 25 = 1 := s1.1
      refine ⟨g1, hFm, ?_⟩
      obtain ⟨fu, rfl⟩ : ∃ q, fu = q + 1 := ⟨fu - 1, by omega⟩
      have e131 : f_X11_works_l131 n Z m g1 = some (0, g1) := by
        unfold f_X11_works_l131
        rw [h25]; exact if_neg i10
      show f_X11_works_l12 n Z m (fu + 1) (nI (i + 1)) g1 = some (0, g1)
      rw [f_X11_works_l12, h25, e131]
      by_cases hc : gI g1 m 12 ≤ nI (i + 1)
      · rw [if_pos hc]
      · rw [if_neg hc]; exact if_neg i10
    | some rows =>
      have hHs : hV b nd (st.getD (ar nd.1 - 1) dV) (st.getD 0 dV) = some (opW b nd (st.getD (ar nd.1 - 1) dV).1 (st.getD 0 dV).1, rows) := by rw [hH, hr]; rfl
      rw [hHs]
      rw [hr] at s1
      have vf : nd.1 ≠ 0 → VOk (st.getD (ar nd.1 - 1) dV) := by
        intro q
        refine vok_get hv ?_
        have : ar nd.1 ≠ 0 := by unfold ar; rw [if_neg q]; split <;> omega
        omega
      have vs : nd.1 = 4 ∨ nd.1 = 5 → VOk (st.getD 0 dV) := by
        intro q
        refine vok_get hv ?_
        have : ar nd.1 = 2 := by unfold ar; rw [if_neg (by omega), if_pos q]
        omega
      have hok := hV_ok hb hNk hfit vf vs hHs
      have hrec := ih (i + 1) fu g1 ((opW b nd (st.getD (ar nd.1 - 1) dV).1 (st.getD 0 dV).1, rows) :: st.drop (ar nd.1)) (by omega) (by omega) (by omega) (hB.ch s3 fun j => by unfold pW; omega) ⟨(s3.i (by unfold pW; omega)).trans hL.1, fun k hk => (hL.2 k hk).ch s3 fun b q => by unfold pW; omega⟩ ?_ ⟨by rw [hlen]; exact s1.1, (hS.drop _).ch s3 (by rw [hlen]; exact Nat.le_refl _)⟩ s1.2 (by rw [List.length_cons, hlen]; exact s2) (by rw [List.length_cons, hlen]; exact hdp.2) (by rw [List.length_cons, hlen]; omega) ?_
      · obtain ⟨g2, c1, c2⟩ := hrec
        exact ⟨g2, hFm.trans c1, c2⟩
      · intro v hvm
        rcases List.mem_cons.mp hvm with q | q
        · subst q; exact hok.2
        · exact hv v (List.mem_of_mem_drop q)
      · refine ⟨ws, ?_⟩
        have : mrun (hW b) 0 (nd :: L.drop (i + 1)) (st.map Prod.fst) = (mst (hW b) 0 nd (st.map Prod.fst)).bind (mrun (hW b) 0 (L.drop (i + 1))) := rfl
        rw [this, hwst, hw, hwe] at hws
        exact hws
/-- works -/
theorem m_works {n : Nat} {Z : Zt} {m : Nat} {b : Nat → Nat} {pre : List Nd} {g : Mem} (hn : 100 ≤ n) (hZ : MZ Z m) (hb : BOk b) (hB : BIs g m b) (hw : wfn pre 1) (ho : ownL pre ≤ 60) (hk : ∀ x ∈ pre, NOk x) (hq : ∃ w, qw b pre = some w) (hS : SIs g m (post pre)) :
    ∃ g', Ch (pW m 0) g g' ∧ match qv b pre with
      | some v => f_X11_works n Z m g = some (1, g') ∧ MR g' m 0 v.1 v.2
      | none => f_X11_works n Z m g = some (0, g') := by
  obtain ⟨w, hq⟩ := hq
  have hpo := post_own hw
  have hlen : (post pre).length ≤ 60 := Nat.le_trans (wfn_len (L := post pre)) (by rw [hpo]; exact ho)
  have hF : Ch (pW m 0) g (sI (sI g m 24 (0 : Int32)) m 25 (0 : Int32)) := (Ch.rfl.sI (Or.inl ⟨rfl, Or.inl rfl⟩)).sI (Or.inl ⟨rfl, Or.inr rfl⟩)
  have hrun := run_agree (hV_ign b) (d := dV) hw
  have hrunW := run_agree (hW_ign b) (d := 0) hw
  have := works_l12 (n := n) (L := post pre) (by omega) hZ hb hlen (post_mem hk) (post pre).length 0 n (sI (sI g m 24 (0 : Int32)) m 25 (0 : Int32)) [] rfl (Nat.zero_le _) (by omega) (hB.ch hF fun j => by unfold pW; omega) ⟨(hF.i (by unfold pW; omega)).trans hS.1, fun k hk => (hS.2 k hk).ch hF fun b q => by unfold pW; omega⟩ (fun v hv => by cases hv) trivial (by rw [gI_sI, if_pos ⟨rfl, rfl⟩]) (by simp (disch := omega) only [gI_sI, if_pos, if_neg, true_and, and_true, and_self, ↓reduceIte]; rfl) (by rw [List.drop_zero]; exact post_mdp hw) (by rw [List.drop_zero, hpo]; simpa using ho) ⟨[w], by
    rw [List.drop_zero]
    refine hrunW.2.trans ?_
    show (qw b pre).map _ = _
    rw [hq]; rfl⟩
  rw [List.drop_zero, hrun.2] at this
  obtain ⟨g', c, h⟩ := this
  refine ⟨g', hF.trans c, ?_⟩
  have e : f_X11_works n Z m g = f_X11_works_l12 n Z m n (nI 0) (sI (sI g m 24 (0 : Int32)) m 25 (0 : Int32)) := by
    unfold f_X11_works
    rw [grd_t hZ.k]; rfl
  rw [e]
  show match qv b pre with
      | some v => _
      | none => _
  unfold qv
  cases hv : (vals (hV b) dV pre).getD 0 none with
  | none => rw [hv] at h; exact h
  | some v =>
    rw [hv] at h
    exact ⟨h.1, h.2.1⟩

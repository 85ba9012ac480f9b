/-! BOTH SIDES, CALL BY CALL -/
def PInv (b : Nat → Nat) (hb : List (Nat → Nat)) (len : Nat) (T : Nat → Nat) (P : List Nat) (v : Vl) : Prop := SOk b ∧ (∀ x ∈ hb, SOk x) ∧ TOk T len ∧ Ans b v ∧ P.length ≤ 1024
def LInv (c m : Nat) (g : Mem) : Prop := ∃ b hb len T P v, PInv b hb len T P v ∧ CInv g c b hb len T P v ∧ MInv g m b hb len T P v
def Agree {α : Type} (c m : Nat) (f1 f2 : Mem → Option (α × Mem)) (g : Mem) : Prop := ∃ r g1 g2, f1 g = some (r, g1) ∧ f2 g1 = some (r, g2) ∧ LInv c m g2
theorem agree_of {α : Type} {c m len : Nat} {f1 f2 : Mem → Option (α × Mem)} {g g1 g2 : Mem} {r : α} {b : Nat → Nat} {hb : List (Nat → Nat)} {T : Nat → Nat} {P : List Nat} {v : Vl} (hd : c + 1462 ≤ m) (hP : PInv b hb len T P v) (h1 : f1 g = some (r, g1)) (hC : CInv g1 c b hb len T P v) (h2 : f2 g1 = some (r, g2)) (hM : MInv g2 m b hb len T P v) (hF : Fr m (m + 21) g1 g2) : Agree c m f1 f2 g :=
  ⟨r, g1, g2, h1, h2, b, hb, len, T, P, v, hP, hC.fr hF (by omega), hM⟩
/-- nothing changes -/
theorem agree_same {α : Type} {c m len : Nat} {f1 f2 : Mem → Option (α × Mem)} {g : Mem} {r : α} {b : Nat → Nat} {hb : List (Nat → Nat)} {T : Nat → Nat} {P : List Nat} {v : Vl} (hd : c + 1462 ≤ m) (hP : PInv b hb len T P v) (hC : CInv g c b hb len T P v) (hM : MInv g m b hb len T P v) (h1 : f1 g = some (r, g)) (h2 : f2 g = some (r, g)) : Agree c m f1 f2 g :=
  agree_of hd hP h1 hC h2 hM Fr.rfl
theorem rec4_mem {hb : List (Nat → Nat)} {b x : Nat → Nat} (h : x ∈ rec4 hb b) : x ∈ hb ∨ x = b := by
  unfold rec4 at h
  rcases List.mem_append.mp h with q | q
  · split at q
    · exact Or.inl (List.mem_of_mem_drop q)
    · exact Or.inl q
  · exact Or.inr (List.mem_singleton.mp q)
theorem c_record {n : Nat} {Z : Zt} {c len : Nat} {b : Nat → Nat} {hb : List (Nat → Nat)} {T : Nat → Nat} {P : List Nat} {v : Vl} {g : Mem} (hn : 100 ≤ n) (hZ : CZ Z c) (hB : BOk b) (h : CInv g c b hb len T P v) : ∃ g', f_X1_record n Z (c + 17) (c + 1) g = some ((), g') ∧ CInv g' c b (rec4 hb b) len T P v ∧ Fr c (c + 1462) g g' := by
  obtain ⟨a1, ⟨σ, a2⟩, a3, a4, a5, a6⟩ := h
  obtain ⟨g', σ', e1, e2, e3⟩ := h_record (n := n) hn hZ.hi hZ.st hB (by omega) a2 a1
  exact ⟨g', e1, ⟨a1.fr e3 (by omega), ⟨σ', e2⟩, a3.fr e3 (by omega), a4.fr e3 (by omega), a5.fr e3 (by omega), a6.fr e3 (by omega)⟩, e3.mono (by omega) (by omega)⟩
theorem pRc_fr {m : Nat} {g g' : Mem} (h : Ch (pRc m) g g') : Fr m (m + 21) g g' := h.fr fun b j q => by unfold pRc at q; omega
theorem m_record {n : Nat} {Z : Zt} {m len : Nat} {b : Nat → Nat} {hb : List (Nat → Nat)} {T : Nat → Nat} {P : List Nat} {v : Vl} {g : Mem} (hn : 500 ≤ n) (hZ : MZ Z m) (h : MInv g m b hb len T P v) : ∃ g', f_X11_records n Z m g = some ((), g') ∧ MInv g' m b (rec4 hb b) len T P v ∧ gI g' m 26 = 0 ∧ Fr m (m + 21) g g' := by
  obtain ⟨a1, a2, a3, a4, a5⟩ := h
  obtain ⟨g', e1, e2, e3, e4⟩ := m_records (n := n) hn hZ a1 a2
  refine ⟨g', e1, ⟨a1.ch e4 fun j => by unfold pRc; omega, e2, ⟨(e4.i (by unfold pRc; omega)).trans a3.1, fun j hj => (e4.i (by unfold pRc; omega)).trans (a3.2 j hj)⟩, ⟨(e4.i (by unfold pRc; omega)).trans a4.1, fun j hj => (e4.i (by unfold pRc; omega)).trans (a4.2 j hj)⟩, Or.inl e3⟩, e3, pRc_fr e4⟩
/-- the state changes, nothing else -/
theorem m_state {m len : Nat} {b b' : Nat → Nat} {hb : List (Nat → Nat)} {T : Nat → Nat} {P : List Nat} {v : Vl} {g g' : Mem} (h : MInv g m b hb len T P v) (h26 : gI g m 26 = 0) (hF : Ch (fun b _ => b = m + 1) g g') (hB : BIs g' m b') (v' : Vl) : MInv g' m b' hb len T P v' ∧ gI g' m 26 = 0 ∧ Fr m (m + 21) g g' := by
  obtain ⟨a1, a2, a3, a4, a5⟩ := h
  have h26' : gI g' m 26 = 0 := (hF.i (by omega)).trans h26
  exact ⟨⟨hB, a2.ch hF ⟨by omega, fun j => by omega⟩, ⟨(hF.i (by omega)).trans a3.1, fun j hj => (hF.i (by omega)).trans (a3.2 j hj)⟩, ⟨(hF.i (by omega)).trans a4.1, fun j hj => (hF.i (by omega)).trans (a4.2 j hj)⟩, Or.inl h26'⟩, h26', hF.fr fun b j q => by omega⟩
theorem c_state {c len : Nat} {b b' : Nat → Nat} {hb : List (Nat → Nat)} {T : Nat → Nat} {P : List Nat} {v : Vl} {g g' : Mem} (h : CInv g c b hb len T P v) (hF : Fr (c + 1) (c + 9) g g') (hS : StIs g' (c + 1) b') (hQ : CQ g (c + 61) b') : CInv g' c b' hb len T P v ∧ Fr c (c + 1462) g g' := by
  obtain ⟨a1, ⟨σ, a2⟩, a3, a4, a5, a6⟩ := h
  exact ⟨⟨hS, ⟨σ, a2.fr hF (by omega)⟩, a3.fr hF (by omega), a4.fr hF (by omega), hQ.fr hF (by omega), a6.fr hF (by omega)⟩, hF.mono (by omega) (by omega)⟩
theorem CQ.cong {g : Mem} {q : Nat} {b b' : Nat → Nat} (h : CQ g q b) (e : ∀ k, 84 ≤ k → b' k = b k) (hw : ∀ pre, Prs b pre → ∀ x ∈ pre, x.1 = 0 → b' x.2.1 = b x.2.1) : CQ g q b' := by
  rcases h with ⟨a1, a2⟩ | ⟨a1, pre, w, a2, a3, a4⟩
  · exact Or.inl ⟨by rw [e 84 (by omega)]; exact a1, a2⟩
  · exact Or.inr ⟨by rw [e 84 (by omega)]; exact a1, pre, w, a2.cong e, by rw [qw_cong (hw pre a2)]; exact a3, a4⟩
/-- no table's width changes -/
theorem wid_same {b b' : Nat → Nat} (hb : BOk b) (hw : ∀ t, t < 4 → b' t = b t) : ∀ pre, Prs b pre → ∀ x ∈ pre, x.1 = 0 → b' x.2.1 = b x.2.1 := fun pre hp x hx h0 => hw _ (by have := (hp.ok hb).2.1 x hx; unfold NOk at this; omega)
section PAIRS
variable {n : Nat} {Z : Zt} {c m : Nat} {g : Mem}
theorem a_setColumns (hn : 500 ≤ n) (hC : CZ Z c) (hM : MZ Z m) (hd : c + 1462 ≤ m) (x1 x2 : Int32) (h : LInv c m g) : Agree c m (f_X10_setColumns n Z c x1 x2) (f_X11_setColumns n Z m x1 x2) g := by
  obtain ⟨b, hb, len, T, P, v, hP, hc, hm⟩ := h
  obtain ⟨⟨hB, hv0⟩, p2, p3, p4, p5⟩ := id hP
  rcases pk_ix x1 (n := 4) (by omega) with q | q | ⟨t, ht, rfl⟩
  · refine agree_same (r := -1) hd hP hc hm ?_ ?_
    · unfold f_X10_setColumns; rw [grd_t hC.k, s_isTO (Or.inl q), bnd_s, if_pos rfl]
    · unfold f_X11_setColumns; rw [grd_t hM.k, m_isTO (Or.inl q), bnd_s, if_pos rfl]
  · refine agree_same (r := -1) hd hP hc hm ?_ ?_
    · unfold f_X10_setColumns; rw [grd_t hC.k, s_isTO (Or.inr q), bnd_s, if_pos rfl]
    · unfold f_X11_setColumns; rw [grd_t hM.k, m_isTO (Or.inr q), bnd_s, if_pos rfl]
  have hin : ∀ g : Mem, f_X11_in n Z x2 (1 : Int32) (3 : Int32) g = some (if x2 < 1 ∨ 3 < x2 then 0 else 1, g) := fun g => m_in
  by_cases q1 : x2 < 1
  · refine agree_same (r := -2) hd hP hc hm ?_ ?_
    · unfold f_X10_setColumns; rw [grd_t hC.k, s_isT ht, bnd_s, if_neg i10, if_pos q1]
    · unfold f_X11_setColumns; rw [grd_t hM.k, m_isT ht, bnd_s, if_neg i10, hin, bnd_s, if_pos (Or.inl q1), if_pos rfl]
  by_cases q2 : x2 ≤ 3
  case neg =>
    refine agree_same (r := -2) hd hP hc hm ?_ ?_
    · unfold f_X10_setColumns; rw [grd_t hC.k, s_isT ht, bnd_s, if_neg i10, if_neg q1, if_neg q2]
    · unfold f_X11_setColumns; rw [grd_t hM.k, m_isT ht, bnd_s, if_neg i10, hin, bnd_s, if_pos (Or.inr (Int32.not_le.mp q2)), if_pos rfl]
  have q3 : ¬ (x2 < 1 ∨ 3 < x2) := fun z => Or.elim z q1 fun z => absurd q2 (Int32.not_le.mpr z)
  have hC2 : f_X10_setColumns n Z c (nI t) x2 g = bnd (f_X8_hasRowIn n Z (c + 1) (nI t) g) (fun r9 g10 => if r9 = 0 then (drf (zf Z c 0) (fun b13 => bnd (f_X8_queryNames n Z b13 (nI t) g10) (fun r15 g16 => if r15 = 0 then (drf (zf Z c 0) (fun b19 => bnd (f_X8_widthOf n Z b19 (nI t) g16) (fun r21 g22 => drf (zf Z c 2) (fun b24 => drf (zf Z c 0) (fun b26 => bnd (f_X1_record n Z b24 b26 g22) (fun r28 g29 => drf (zf Z c 0) (fun b31 => bnd (f_X8_setWidth n Z b31 (nI t) x2 g29) (fun r33 g34 => some (r21, g34))))))))) else (some ((-5 : Int32), g16))))) else (some ((-5 : Int32), g10))) := by
    unfold f_X10_setColumns; rw [grd_t hC.k, s_isT ht, bnd_s, if_neg i10, if_neg q1, if_pos q2, hC.f0, drf_s]
  have hM2 : ∀ g, f_X11_setColumns n Z m (nI t) x2 g = bnd (f_X11_hasRows n Z m (nI t) g) (fun r9 g10 => if r9 = 0 then (bnd (f_X11_occurs n Z m (nI t) g10) (fun r13 g14 => if r13 = 0 then (bnd (f_X11_records n Z m g14) (fun r17 g18 => drf (zf Z m 0) (fun b20 => grd (zk Z b20 = 12) (grd (inr (nI t) (zl Z b20)) (drf (zf Z m 0) (fun b24 => grd (zk Z b24 = 12) (grd (inr (nI t) (zl Z b24)) (some ((gI g18 b20 (nI t).toNatClampNeg), (sI g18 b24 (nI t).toNatClampNeg x2)))))))))) else (some ((-5 : Int32), g14)))) else (some ((-5 : Int32), g10))) := fun g => by
    unfold f_X11_setColumns; rw [grd_t hM.k, m_isT ht, bnd_s, if_neg i10, hin, bnd_s, if_neg q3, if_neg i10]
  obtain ⟨w, hw, rfl⟩ := nI_of2 (M := 3) (n := 3) (by decide) (fun z => q1 (Int32.lt_trans z (by decide))) q2
  have hw1 : 1 ≤ w := by
    have : ¬ nI w < nI 1 := q1
    exact Nat.le_of_not_lt fun z => this ((nlt (by omega) (by omega)).mpr z)
  rw [Agree]
  cases hr : hasR b t with
  | true =>
    refine agree_same (r := -5) hd hP hc hm ?_ ?_
    · rw [hC2, s_rowIn (by omega) hB hC.st hc.1 ht, bnd_s, hr, if_pos rfl, if_neg i10]
    · rw [hM2, m_hasR (by omega) hB hM hm.1 ht, bnd_s, hr, if_pos rfl, if_neg i10]
  | false =>
    cases ho : occ b t with
    | true =>
      refine agree_same (r := -5) hd hP hc hm ?_ ?_
      · rw [hC2, s_rowIn (by omega) hB hC.st hc.1 ht, bnd_s, hr, if_neg ff, if_pos rfl, hC.f0, drf_s, s_names (by omega) hB hC.st hc.1 ht, bnd_s, ho, if_pos rfl, if_neg i10]
      · rw [hM2, m_hasR (by omega) hB hM hm.1 ht, bnd_s, hr, if_neg ff, if_pos rfl, m_occ (by omega) hB hM hm.1 ht, bnd_s, ho, if_pos rfl, if_neg i10]
    | false =>
      have hB' := hB.width (w := w) ht hw1 hw hr
      have hwd : ∀ pre, Prs b pre → ∀ x ∈ pre, x.1 = 0 → up b t w x.2.1 = b x.2.1 := fun pre hp x hx h0 => by
        have := hp.occ hx h0
        exact up_ne fun e => by rw [e, ho] at this; cases this
      have hup : ∀ k, 84 ≤ k → up b t w k = b k := fun k hk => up_ne (by omega)
      have hA' : Ans (up b t w) v := p4.cong hwd (fun s hs => ⟨up_ne (by omega), up_ne (by omega)⟩) hup
      obtain ⟨g1, a1, a2, a3⟩ := c_record (n := n) (by omega) hC hB hc
      obtain ⟨g2, b1, b2, b3⟩ := s_setWidth (n := n) (v := w) hC.st a2.1 ht
      obtain ⟨c1, c2⟩ := c_state a2 b3 b2 (a2.2.2.2.2.1.cong hup hwd)
      have F2 := a3.trans c2
      have hm1 := hm.fr F2 (by omega)
      obtain ⟨g3, d1, d2, d3, d4⟩ := m_record (n := n) (by omega) hM hm1
      obtain ⟨e1, e2, e3⟩ := m_state d2 d3 (b' := up b t w) (g' := sI g3 (m + 1) t (nI w)) (Ch.rfl.sI rfl) d2.1.up v
      refine agree_of (r := nI (b t)) hd (b := up b t w) (hb := rec4 hb b) ⟨⟨hB', v, hA'⟩, fun x hx => ?_, p3, hA', p5⟩ ?_ c1 ?_ e1 (d4.trans e3)
      · rcases rec4_mem hx with z | z
        · exact p2 x z
        · rw [z]; exact ⟨hB, hv0⟩
      · rw [hC2, s_rowIn (by omega) hB hC.st hc.1 ht, bnd_s, hr, if_neg ff, if_pos rfl, hC.f0, drf_s, s_names (by omega) hB hC.st hc.1 ht, bnd_s, ho, if_neg ff, if_pos rfl, drf_s, s_width hC.st hc.1 ht, bnd_s, hC.f2, drf_s, drf_s, a1, bnd_s, drf_s, b1, bnd_s]
      · have h0 : gI g3 (m + 1) t = nI (b t) := d2.1 t (by omega)
        rw [hM2, m_hasR (by omega) hB hM hm1.1 ht, bnd_s, hr, if_neg ff, if_pos rfl, m_occ (by omega) hB hM hm1.1 ht, bnd_s, ho, if_neg ff, if_pos rfl, d1, bnd_s]
        simp (disch := omega) only [hM.f0, hM.k0, hM.l0, drf_s, grd_t, grd_true, inr_eq, clamp, h0]
/-- a tag is out of range for both -/
theorem tag_out {b : Nat → Nat} {x : Int32} (hx : x < 0 ∨ nI 16 ≤ x) (hC : CZ Z c) (hM : MZ Z m) : (∀ g, f_X8_hasTag n Z (c + 1) x g = some (0, g)) ∧ ∀ g, f_X11_isTag n Z m x g = some (0, g) := ⟨fun _ => s_has_out hC.st hx, fun _ => m_isTagO hM hx⟩
theorem a_setCost (hn : 500 ≤ n) (hC : CZ Z c) (hM : MZ Z m) (hd : c + 1462 ≤ m) (x1 x2 : Int32) (h : LInv c m g) : Agree c m (f_X10_setCost n Z c x1 x2) (f_X11_setCost n Z m x1 x2) g := by
  obtain ⟨b, hb, len, T, P, v, hP, hc, hm⟩ := h
  obtain ⟨⟨hB, hv0⟩, p2, p3, p4, p5⟩ := id hP
  have hout : (f_X8_hasTag n Z (c + 1) x1 g = some (0, g) ∧ f_X11_isTag n Z m x1 g = some (0, g)) → Agree c m (f_X10_setCost n Z c x1 x2) (f_X11_setCost n Z m x1 x2) g := fun z => by
    refine agree_same (r := -1) hd hP hc hm ?_ ?_
    · unfold f_X10_setCost; rw [grd_t hC.k, hC.f0, drf_s, z.1, bnd_s, if_pos rfl]
    · unfold f_X11_setCost; rw [grd_t hM.k, z.2, bnd_s, if_pos rfl]
  rcases pk_ix x1 (n := 16) (by omega) with q | q | ⟨t, ht, rfl⟩
  · exact hout ⟨s_has_out hC.st (Or.inl q), m_isTagO hM (Or.inl q)⟩
  · exact hout ⟨s_has_out hC.st (Or.inr q), m_isTagO hM (Or.inr q)⟩
  by_cases q0 : b (4 + 5 * t) = 0
  · exact hout ⟨by rw [s_has hC.st hc.1 ht, if_pos q0], by rw [m_isTag hB hM hm.1 ht, if_pos q0]⟩
  have hin : ∀ g : Mem, f_X11_in n Z x2 (0 : Int32) (999 : Int32) g = some (if x2 < 0 ∨ 999 < x2 then 0 else 1, g) := fun g => m_in
  by_cases q1 : x2 < 0
  · refine agree_same (r := -2) hd hP hc hm ?_ ?_
    · unfold f_X10_setCost; rw [grd_t hC.k, hC.f0, drf_s, s_has hC.st hc.1 ht, bnd_s, if_neg q0, if_neg i10, if_pos q1]
    · unfold f_X11_setCost; rw [grd_t hM.k, m_isTag hB hM hm.1 ht, bnd_s, if_neg q0, if_neg i10, hin, bnd_s, if_pos (Or.inl q1), if_pos rfl]
  by_cases q2 : x2 ≤ 999
  case neg =>
    refine agree_same (r := -2) hd hP hc hm ?_ ?_
    · unfold f_X10_setCost; rw [grd_t hC.k, hC.f0, drf_s, s_has hC.st hc.1 ht, bnd_s, if_neg q0, if_neg i10, if_neg q1, if_neg q2]
    · unfold f_X11_setCost; rw [grd_t hM.k, m_isTag hB hM hm.1 ht, bnd_s, if_neg q0, if_neg i10, hin, bnd_s, if_pos (Or.inr (Int32.not_le.mp q2)), if_pos rfl]
  have q3 : ¬ (x2 < 0 ∨ 999 < x2) := fun z => Or.elim z q1 fun z => absurd q2 (Int32.not_le.mpr z)
  have hC2 : f_X10_setCost n Z c (nI t) x2 g = bnd (f_X1_record n Z (c + 17) (c + 1) g) (fun r18 g19 => drf (zf Z c 0) (fun b21 => bnd (f_X8_changeCost n Z b21 (nI t) x2 g19) (fun r23 g24 => some (nI (b (6 + 5 * t)), g24)))) := by
    unfold f_X10_setCost; rw [grd_t hC.k, hC.f0, drf_s, s_has hC.st hc.1 ht, bnd_s, if_neg q0, if_neg i10, if_neg q1, if_pos q2, drf_s, s_cost hC.st hc.1 ht, bnd_s, if_neg q0, hC.f2, drf_s, drf_s]
  have hM2 : ∀ g, MInv g m b hb len T P v → f_X11_setCost n Z m (nI t) x2 g = bnd (f_X11_records n Z m g) (fun r9 g10 => bnd (f_X11_of n Z m (nI t) (2 : Int32) g10) (fun r12 g13 => bnd (f_X11_lays n Z m (nI t) (2 : Int32) x2 g13) (fun r15 g16 => some (r12, g16)))) := fun g hm => by
    unfold f_X11_setCost; rw [grd_t hM.k, m_isTag hB hM hm.1 ht, bnd_s, if_neg q0, if_neg i10, hin, bnd_s, if_neg q3, if_neg i10]
  obtain ⟨w, hw, rfl⟩ := nI_of2 (M := 999) (n := 999) (by decide) q1 q2
  have hB' := hB.cost ht q0 hw
  have hwd := wid_same (b' := up b (6 + 5 * t) w) hB fun s hs => up_ne (by omega)
  have hup : ∀ k, 84 ≤ k → up b (6 + 5 * t) w k = b k := fun k hk => up_ne (by omega)
  have hA' : Ans (up b (6 + 5 * t) w) v := p4.cong hwd (fun s hs => ⟨up_ne (by omega), up_ne (by omega)⟩) hup
  obtain ⟨g1, a1, a2, a3⟩ := c_record (n := n) (by omega) hC hB hc
  obtain ⟨g2, b1, b2, b3⟩ := s_setCost (n := n) (v := w) hC.st a2.1 ht q0
  obtain ⟨c1, c2⟩ := c_state a2 b3 b2 (a2.2.2.2.2.1.cong hup hwd)
  have F2 := a3.trans c2
  have hm1 := hm.fr F2 (by omega)
  obtain ⟨g3, d1, d2, d3, d4⟩ := m_record (n := n) (by omega) hM hm1
  obtain ⟨e1, e2, e3⟩ := m_state d2 d3 (b' := up b (6 + 5 * t) w) (g' := sI g3 (m + 1) (6 + 5 * t) (nI w)) (Ch.rfl.sI rfl) d2.1.up v
  refine agree_of (r := nI (b (6 + 5 * t))) hd (b := up b (6 + 5 * t) w) (hb := rec4 hb b) ⟨⟨hB', v, hA'⟩, fun x hx => ?_, p3, hA', p5⟩ ?_ c1 ?_ e1 (d4.trans e3)
  · rcases rec4_mem hx with z | z
    · exact p2 x z
    · rw [z]; exact ⟨hB, hv0⟩
  · rw [hC2, a1, bnd_s, hC.f0, drf_s, b1, bnd_s]
  · have hl : f_X11_lays n Z m (nI t) 2 (nI w) g3 = some ((), sI g3 (m + 1) (6 + 5 * t) (nI w)) := by
      rw [show 6 + 5 * t = 4 + 5 * t + 2 by omega]; exact m_lays (c := 2) hM ht (by omega)
    rw [hM2 _ hm1, d1, bnd_s, of_2 hM d2.1 ht, bnd_s, hl, bnd_s]
theorem a_setTrust (hn : 500 ≤ n) (hC : CZ Z c) (hM : MZ Z m) (hd : c + 1462 ≤ m) (x1 x2 : Int32) (h : LInv c m g) : Agree c m (f_X10_setTrust n Z c x1 x2) (f_X11_setTrust n Z m x1 x2) g := by
  obtain ⟨b, hb, len, T, P, v, hP, hc, hm⟩ := h
  obtain ⟨⟨hB, hv0⟩, p2, p3, p4, p5⟩ := id hP
  have hout : (f_X8_hasTag n Z (c + 1) x1 g = some (0, g) ∧ f_X11_isTag n Z m x1 g = some (0, g)) → Agree c m (f_X10_setTrust n Z c x1 x2) (f_X11_setTrust n Z m x1 x2) g := fun z => by
    refine agree_same (r := -1) hd hP hc hm ?_ ?_
    · unfold f_X10_setTrust; rw [grd_t hC.k, hC.f0, drf_s, z.1, bnd_s, if_pos rfl]
    · unfold f_X11_setTrust; rw [grd_t hM.k, z.2, bnd_s, if_pos rfl]
  rcases pk_ix x1 (n := 16) (by omega) with q | q | ⟨t, ht, rfl⟩
  · exact hout ⟨s_has_out hC.st (Or.inl q), m_isTagO hM (Or.inl q)⟩
  · exact hout ⟨s_has_out hC.st (Or.inr q), m_isTagO hM (Or.inr q)⟩
  by_cases q0 : b (4 + 5 * t) = 0
  · exact hout ⟨by rw [s_has hC.st hc.1 ht, if_pos q0], by rw [m_isTag hB hM hm.1 ht, if_pos q0]⟩
  have hin : ∀ g : Mem, f_X11_in n Z x2 (0 : Int32) (100 : Int32) g = some (if x2 < 0 ∨ 100 < x2 then 0 else 1, g) := fun g => m_in
  by_cases q1 : x2 < 0
  · refine agree_same (r := -2) hd hP hc hm ?_ ?_
    · unfold f_X10_setTrust; rw [grd_t hC.k, hC.f0, drf_s, s_has hC.st hc.1 ht, bnd_s, if_neg q0, if_neg i10, if_pos q1]
    · unfold f_X11_setTrust; rw [grd_t hM.k, m_isTag hB hM hm.1 ht, bnd_s, if_neg q0, if_neg i10, hin, bnd_s, if_pos (Or.inl q1), if_pos rfl]
  by_cases q2 : x2 ≤ 100
  case neg =>
    refine agree_same (r := -2) hd hP hc hm ?_ ?_
    · unfold f_X10_setTrust; rw [grd_t hC.k, hC.f0, drf_s, s_has hC.st hc.1 ht, bnd_s, if_neg q0, if_neg i10, if_neg q1, if_neg q2]
    · unfold f_X11_setTrust; rw [grd_t hM.k, m_isTag hB hM hm.1 ht, bnd_s, if_neg q0, if_neg i10, hin, bnd_s, if_pos (Or.inr (Int32.not_le.mp q2)), if_pos rfl]
  have q3 : ¬ (x2 < 0 ∨ 100 < x2) := fun z => Or.elim z q1 fun z => absurd q2 (Int32.not_le.mpr z)
  have hC2 : f_X10_setTrust n Z c (nI t) x2 g = bnd (f_X1_record n Z (c + 17) (c + 1) g) (fun r18 g19 => drf (zf Z c 0) (fun b21 => bnd (f_X8_changeTrust n Z b21 (nI t) x2 g19) (fun r23 g24 => some (nI (b (7 + 5 * t)), g24)))) := by
    unfold f_X10_setTrust; rw [grd_t hC.k, hC.f0, drf_s, s_has hC.st hc.1 ht, bnd_s, if_neg q0, if_neg i10, if_neg q1, if_pos q2, drf_s, s_trust hC.st hc.1 ht, bnd_s, if_neg q0, hC.f2, drf_s, drf_s]
  have hM2 : ∀ g, MInv g m b hb len T P v → f_X11_setTrust n Z m (nI t) x2 g = bnd (f_X11_records n Z m g) (fun r9 g10 => bnd (f_X11_of n Z m (nI t) (3 : Int32) g10) (fun r12 g13 => bnd (f_X11_lays n Z m (nI t) (3 : Int32) x2 g13) (fun r15 g16 => some (r12, g16)))) := fun g hm => by
    unfold f_X11_setTrust; rw [grd_t hM.k, m_isTag hB hM hm.1 ht, bnd_s, if_neg q0, if_neg i10, hin, bnd_s, if_neg q3, if_neg i10]
  obtain ⟨w, hw, rfl⟩ := nI_of2 (M := 100) (n := 100) (by decide) q1 q2
  have hB' := hB.trust ht q0 hw
  have hwd := wid_same (b' := up b (7 + 5 * t) w) hB fun s hs => up_ne (by omega)
  have hup : ∀ k, 84 ≤ k → up b (7 + 5 * t) w k = b k := fun k hk => up_ne (by omega)
  have hA' : Ans (up b (7 + 5 * t) w) v := p4.cong hwd (fun s hs => ⟨up_ne (by omega), up_ne (by omega)⟩) hup
  obtain ⟨g1, a1, a2, a3⟩ := c_record (n := n) (by omega) hC hB hc
  obtain ⟨g2, b1, b2, b3⟩ := s_setTrust (n := n) (v := w) hC.st a2.1 ht q0
  obtain ⟨c1, c2⟩ := c_state a2 b3 b2 (a2.2.2.2.2.1.cong hup hwd)
  have F2 := a3.trans c2
  have hm1 := hm.fr F2 (by omega)
  obtain ⟨g3, d1, d2, d3, d4⟩ := m_record (n := n) (by omega) hM hm1
  obtain ⟨e1, e2, e3⟩ := m_state d2 d3 (b' := up b (7 + 5 * t) w) (g' := sI g3 (m + 1) (7 + 5 * t) (nI w)) (Ch.rfl.sI rfl) d2.1.up v
  refine agree_of (r := nI (b (7 + 5 * t))) hd (b := up b (7 + 5 * t) w) (hb := rec4 hb b) ⟨⟨hB', v, hA'⟩, fun x hx => ?_, p3, hA', p5⟩ ?_ c1 ?_ e1 (d4.trans e3)
  · rcases rec4_mem hx with z | z
    · exact p2 x z
    · rw [z]; exact ⟨hB, hv0⟩
  · rw [hC2, a1, bnd_s, hC.f0, drf_s, b1, bnd_s]
  · have hl : f_X11_lays n Z m (nI t) 3 (nI w) g3 = some ((), sI g3 (m + 1) (7 + 5 * t) (nI w)) := by
      rw [show 7 + 5 * t = 4 + 5 * t + 3 by omega]; exact m_lays (c := 3) hM ht (by omega)
    rw [hM2 _ hm1, d1, bnd_s, of_3 hM d2.1 ht, bnd_s, hl, bnd_s]
end PAIRS

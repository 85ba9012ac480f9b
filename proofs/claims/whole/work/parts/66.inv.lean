/-! WHAT BOTH SIDES HOLD: b the state, hb the history, T the text, P what is printed, v the answer -/
def tq (b : Nat → Nat) : Nat → Nat := fun k => if k < b 84 then b (85 + k) else 0
theorem tq_ok {b : Nat → Nat} (hb : BOk b) : TOk (tq b) (b 84) := ⟨hb.2.2.1, fun k hk => by
  unfold tq; rw [if_pos hk]; have := hb.2.2.2 k hk; omega, fun k hk => by unfold tq; rw [if_neg (by omega)]⟩
/-- the query of a state -/
def Prs (b : Nat → Nat) (pre : List Nd) : Prop := ∃ S, prunT (tq b) = (b 84, some (pre, S))
theorem Prs.uniq {b : Nat → Nat} {p q : List Nd} (h : Prs b p) (h' : Prs b q) : p = q := by
  obtain ⟨S, e⟩ := h
  obtain ⟨S', e'⟩ := h'
  rw [e] at e'
  exact (Prod.mk.inj (Option.some.inj (Prod.mk.inj e').2)).1
/-- the answer of a state -/
def Ans (b : Nat → Nat) (v : Vl) : Prop := (b 84 = 0 ∧ v = dV) ∨ (b 84 ≠ 0 ∧ ∃ pre w, Prs b pre ∧ qw b pre = some w ∧ qv b pre = some v)
/-- a state that can stand -/
def SOk (b : Nat → Nat) : Prop := BOk b ∧ ∃ v, Ans b v
theorem Ans.uniq {b : Nat → Nat} {v v' : Vl} (h : Ans b v) (h' : Ans b v') : v = v' := by
  rcases h with ⟨h1, h2⟩ | ⟨h1, p, w, h2, h3, h4⟩
  · rcases h' with ⟨g1, g2⟩ | ⟨g1, _⟩
    · rw [h2, g2]
    · exact absurd h1 g1
  · rcases h' with ⟨g1, g2⟩ | ⟨g1, p', w', g2, g3, g4⟩
    · exact absurd g1 h1
    · have := h2.uniq g2
      subst this
      rw [h4] at g4
      exact Option.some.inj g4
theorem prunT_empty {T : Nat → Nat} (h : T 0 = 0) : prunT T = (0, none) := by
  unfold prunT prun phead
  simp [h]
/-! the class -/
def CZ (Z : Zt) (c : Nat) : Prop := (zk Z c = 9 ∧ zf Z c 0 = some (c + 1) ∧ zf Z c 1 = some (c + 9) ∧ zf Z c 2 = some (c + 17) ∧ zf Z c 3 = some (c + 51) ∧ zf Z c 4 = some (c + 53) ∧ zf Z c 5 = some (c + 55) ∧ zf Z c 6 = some (c + 61) ∧ zf Z c 7 = some (c + 67) ∧ zf Z c 8 = some (c + 1455) ∧ zf Z c 9 = some (c + 1458)) ∧ SZ Z (c + 1) ∧ SZ Z (c + 9) ∧ HZ Z (c + 17) ∧ LZ Z (c + 51) 60 ∧ LZ Z (c + 53) 1024 ∧ QZ Z (c + 55) ∧ QZ Z (c + 61) ∧ EZ Z (c + 67) ∧ PZ Z (c + 1455) ∧ TZ Z (c + 1458)
theorem CZ.k {Z : Zt} {c : Nat} (h : CZ Z c) : zk Z c = 9 := h.1.1
theorem CZ.f0 {Z : Zt} {c : Nat} (h : CZ Z c) : zf Z c 0 = some (c + 1) := h.1.2.1
theorem CZ.f1 {Z : Zt} {c : Nat} (h : CZ Z c) : zf Z c 1 = some (c + 9) := h.1.2.2.1
theorem CZ.f2 {Z : Zt} {c : Nat} (h : CZ Z c) : zf Z c 2 = some (c + 17) := h.1.2.2.2.1
theorem CZ.f3 {Z : Zt} {c : Nat} (h : CZ Z c) : zf Z c 3 = some (c + 51) := h.1.2.2.2.2.1
theorem CZ.f4 {Z : Zt} {c : Nat} (h : CZ Z c) : zf Z c 4 = some (c + 53) := h.1.2.2.2.2.2.1
theorem CZ.f5 {Z : Zt} {c : Nat} (h : CZ Z c) : zf Z c 5 = some (c + 55) := h.1.2.2.2.2.2.2.1
theorem CZ.f6 {Z : Zt} {c : Nat} (h : CZ Z c) : zf Z c 6 = some (c + 61) := h.1.2.2.2.2.2.2.2.1
theorem CZ.f7 {Z : Zt} {c : Nat} (h : CZ Z c) : zf Z c 7 = some (c + 67) := h.1.2.2.2.2.2.2.2.2.1
theorem CZ.f8 {Z : Zt} {c : Nat} (h : CZ Z c) : zf Z c 8 = some (c + 1455) := h.1.2.2.2.2.2.2.2.2.2.1
theorem CZ.f9 {Z : Zt} {c : Nat} (h : CZ Z c) : zf Z c 9 = some (c + 1458) := h.1.2.2.2.2.2.2.2.2.2.2
theorem CZ.st {Z : Zt} {c : Nat} (h : CZ Z c) : SZ Z (c + 1) := h.2.1
theorem CZ.tr {Z : Zt} {c : Nat} (h : CZ Z c) : SZ Z (c + 9) := h.2.2.1
theorem CZ.hi {Z : Zt} {c : Nat} (h : CZ Z c) : HZ Z (c + 17) := h.2.2.2.1
theorem CZ.tx {Z : Zt} {c : Nat} (h : CZ Z c) : LZ Z (c + 51) 60 := h.2.2.2.2.1
theorem CZ.pa {Z : Zt} {c : Nat} (h : CZ Z c) : LZ Z (c + 53) 1024 := h.2.2.2.2.2.1
theorem CZ.dr {Z : Zt} {c : Nat} (h : CZ Z c) : QZ Z (c + 55) := h.2.2.2.2.2.2.1
theorem CZ.cu {Z : Zt} {c : Nat} (h : CZ Z c) : QZ Z (c + 61) := h.2.2.2.2.2.2.2.1
theorem CZ.ev {Z : Zt} {c : Nat} (h : CZ Z c) : EZ Z (c + 67) := h.2.2.2.2.2.2.2.2.1
theorem CZ.sh {Z : Zt} {c : Nat} (h : CZ Z c) : PZ Z (c + 1455) := h.2.2.2.2.2.2.2.2.2.1
theorem CZ.ts {Z : Zt} {c : Nat} (h : CZ Z c) : TZ Z (c + 1458) := h.2.2.2.2.2.2.2.2.2.2
/-- the current query -/
def CQ (g : Mem) (q : Nat) (b : Nat → Nat) : Prop := (b 84 = 0 ∧ gI g q 9 = 0) ∨ (b 84 ≠ 0 ∧ ∃ pre w, Prs b pre ∧ qw b pre = some w ∧ QIs g q pre ∧ gI g q 9 = 1)
theorem CQ.fr {g g' : Mem} {q lo hi : Nat} {b : Nat → Nat} (h : CQ g q b) (hF : Fr lo hi g g') (h1 : q + 6 ≤ lo ∨ hi ≤ q) : CQ g' q b := by
  rcases h with ⟨a1, a2⟩ | ⟨a1, pre, w, a2, a3, a4, a5⟩
  · exact Or.inl ⟨a1, (hF.i (by omega) _).trans a2⟩
  · exact Or.inr ⟨a1, pre, w, a2, a3, a4.fr hF (by omega), (hF.i (by omega) _).trans a5⟩
/-- the Evaluator holds the answer -/
def EA (g : Mem) (a : Nat) (v : Vl) : Prop := ∃ ρ C, EvIs g a ρ C ∧ C 13 = (v.1, pkR v.2)
theorem EA.fr {g g' : Mem} {a lo hi : Nat} {v : Vl} (h : EA g a v) (hF : Fr lo hi g g') (h1 : a + 1388 ≤ lo ∨ hi ≤ a) : EA g' a v := by
  obtain ⟨ρ, C, a1, a2⟩ := h
  exact ⟨ρ, C, a1.fr hF h1, a2⟩
def CInv (g : Mem) (c : Nat) (b : Nat → Nat) (hb : List (Nat → Nat)) (len : Nat) (T : Nat → Nat) (P : List Nat) (v : Vl) : Prop := StIs g (c + 1) b ∧ (∃ σ, HsIs g (c + 17) σ hb) ∧ LIs g (c + 51) len T ∧ LIs g (c + 53) P.length (fun k => P.getD k 0) ∧ CQ g (c + 61) b ∧ EA g (c + 67) v
theorem CInv.fr {g g' : Mem} {c lo hi len : Nat} {b : Nat → Nat} {hb : List (Nat → Nat)} {T : Nat → Nat} {P : List Nat} {v : Vl} (h : CInv g c b hb len T P v) (hF : Fr lo hi g g') (h1 : c + 1462 ≤ lo ∨ hi ≤ c) : CInv g' c b hb len T P v := by
  obtain ⟨a1, ⟨σ, a2⟩, a3, a4, a5, a6⟩ := h
  exact ⟨a1.fr hF (by omega), ⟨σ, a2.fr hF (by omega)⟩, a3.fr hF (by omega), a4.fr hF (by omega), a5.fr hF (by omega), a6.fr hF (by omega)⟩
/-- reading the query of a state anew -/
theorem c_reread {n : Nat} {Z : Zt} {c : Nat} {b : Nat → Nat} {g : Mem} (hn : 100 ≤ n) (hZ : CZ Z c) (hb : SOk b) (hS : StIs g (c + 1) b) : ∃ r g', f_X6_read n Z (c + 61) (c + 1 + 6) g = some (r, g') ∧ CQ g' (c + 61) b ∧ Fr (c + 61) (c + 67) g g' := by
  have hT := tq_ok hb.1
  have hL : LIs g (c + 1 + 6) (b 84) (tq b) := hS.2.2.2.2.cong fun k hk => by unfold tq; rw [if_pos hk]
  obtain ⟨g', a1, a2, a3⟩ := c_read (n := n) hn hZ.cu hZ.st.2 hT (by omega) hL
  obtain ⟨v, hv⟩ := hb.2
  rcases hv with ⟨h1, h2⟩ | ⟨h1, pre, w, ⟨S, h2⟩, h3, h4⟩
  · have e : prunT (tq b) = (0, none) := prunT_empty (by unfold tq; rw [if_neg (by omega)])
    rw [e] at a2 a3
    exact ⟨0, g', a3.1, Or.inl ⟨h1, a3.2⟩, a1⟩
  · rw [h2] at a2 a3
    dsimp only at a3
    rw [if_pos rfl] at a3
    exact ⟨1, g', a3.2.1, Or.inr ⟨h1, pre, w, ⟨S, h2⟩, h3, a3.1, a3.2.2⟩, a1⟩
theorem Prs.ok {b : Nat → Nat} {pre : List Nd} (hb : BOk b) (h : Prs b pre) : wfn pre 1 ∧ (∀ x ∈ pre, NOk x) ∧ ownL pre = b 84 := by
  obtain ⟨S, e⟩ := h
  obtain ⟨a1, a2, a3, a4, a5⟩ := prunT_ok (tq_ok hb) e
  exact ⟨a1, a3, a4⟩
/-- computing the answer of a state of which the query is current -/
theorem c_comp {n : Nat} {Z : Zt} {c s : Nat} {b : Nat → Nat} {g : Mem} {ρ : Nat → Nat} {C : Nat → Vl} (hn : 100 ≤ n) (hZ : CZ Z c) (hZs : SZ Z s) (hds : s + 8 ≤ c + 67 ∨ c + 67 + 1388 ≤ s) (hb : BOk b) (hS : StIs g s b) (hQ : CQ g (c + 61) b) (hE : EvIs g (c + 67) ρ C) : ∃ o, VRes (f_X0_compute n Z (c + 67) (c + 61) s g) g (c + 67) C o ∧ ∀ v, o = some v ↔ Ans b v := by
  rcases hQ with ⟨h1, h2⟩ | ⟨h1, pre, w, h2, h3, h4, h5⟩
  · refine ⟨some dV, c_compute_no hZ.ev hZ.cu (by omega) h2 hE, fun v => ⟨fun e => Or.inl ⟨h1, (Option.some.inj e).symm⟩, fun e => ?_⟩⟩
    rcases e with ⟨_, e⟩ | ⟨e, _⟩
    · rw [e]
    · exact absurd h1 e
  · obtain ⟨k1, k2, k3⟩ := h2.ok hb
    have := hb.2.2.1
    refine ⟨qv b pre, c_compute hn hZ.ev hZ.cu hZs hb (by omega) hds k2 k1 (by omega) h3 h4 h5 hS hE, fun v => ⟨fun e => Or.inr ⟨h1, pre, w, h2, h3, e⟩, fun e => ?_⟩⟩
    rcases e with ⟨e, _⟩ | ⟨_, p, w', e1, e2, e3⟩
    · exact absurd e h1
    · rw [h2.uniq e1]; exact e3
theorem c_refresh {n : Nat} {Z : Zt} {c : Nat} {b : Nat → Nat} {v v0 : Vl} {g : Mem} (hn : 100 ≤ n) (hZ : CZ Z c) (hb : BOk b) (hv : Ans b v) (hS : StIs g (c + 1) b) (hQ : CQ g (c + 61) b) (hE : EA g (c + 67) v0) : ∃ g', f_X10_refreshAnswer n Z c g = some ((), g') ∧ EA g' (c + 67) v ∧ Fr (c + 67) (c + 67 + 1388) g g' := by
  obtain ⟨ρ, C, e1, e2⟩ := hE
  obtain ⟨o, ho, ho2⟩ := c_comp hn hZ hZ.st (by omega) hb hS hQ e1
  have := (ho2 v).mpr hv
  subst this
  obtain ⟨g1, ρ1, C1, f1, f2, f3, f4, f5⟩ := ho
  obtain ⟨g2, ρ2, C2, k1, k2, k3, k4⟩ := c_keep (n := n) hZ.ev f2
  refine ⟨g2, ?_, ⟨ρ2, C2, k2, k3.trans f3⟩, f4.trans (k4.mono (by omega) (by omega))⟩
  unfold f_X10_refreshAnswer
  rw [grd_t hZ.k, hZ.f7, drf_s, hZ.f6, drf_s, hZ.f0, drf_s, f1, bnd_s, if_neg i10, drf_s, k1, bnd_s]
/-! the reference -/
def TxM (g : Mem) (m len : Nat) (T : Nat → Nat) : Prop := gI g m 4 = nI len ∧ ∀ j, j < len → gI g (m + 3) j = nI (T j)
def PrM (g : Mem) (m : Nat) (P : List Nat) : Prop := gI g m 31 = nI P.length ∧ ∀ j, j < P.length → gI g (m + 20) j = nI (P.getD j 0)
def LaM (g : Mem) (m : Nat) (v : Vl) : Prop := gI g m 26 = 0 ∨ gI g m 26 = 1 ∧ MR g m 0 v.1 v.2
def MInv (g : Mem) (m : Nat) (b : Nat → Nat) (hb : List (Nat → Nat)) (len : Nat) (T : Nat → Nat) (P : List Nat) (v : Vl) : Prop := BIs g m b ∧ PaIs g m hb ∧ TxM g m len T ∧ PrM g m P ∧ LaM g m v
theorem MR.fr {g g' : Mem} {m lo hi ρ w : Nat} {rows : Rws} (h : MR g m ρ w rows) (hF : Fr lo hi g g') (h1 : m + 21 ≤ lo ∨ hi ≤ m) : MR g' m ρ w rows :=
  h.ch hF.ch fun b j q z => by unfold pQ at q; omega
theorem MInv.fr {g g' : Mem} {m lo hi len : Nat} {b : Nat → Nat} {hb : List (Nat → Nat)} {T : Nat → Nat} {P : List Nat} {v : Vl} (h : MInv g m b hb len T P v) (hF : Fr lo hi g g') (h1 : m + 21 ≤ lo ∨ hi ≤ m) : MInv g' m b hb len T P v := by
  obtain ⟨a1, a2, a3, a4, a5⟩ := h
  refine ⟨a1.ch hF.ch fun j => by omega, a2.ch hF.ch ⟨by omega, fun j => by omega⟩, ⟨(hF.i (by omega) _).trans a3.1, fun j hj => (hF.i (by omega) _).trans (a3.2 j hj)⟩, ⟨(hF.i (by omega) _).trans a4.1, fun j hj => (hF.i (by omega) _).trans (a4.2 j hj)⟩, ?_⟩
  rcases a5 with z | ⟨z, y⟩
  · exact Or.inl ((hF.i (by omega) _).trans z)
  · exact Or.inr ⟨(hF.i (by omega) _).trans z, y.fr hF h1⟩
/-- working places of the reference -/
def pL (m b j : Nat) : Prop := (b = m ∧ j ≠ 2 ∧ j ≠ 4 ∧ j ≠ 31) ∨ (m + 4 ≤ b ∧ b ≤ m + 19)
theorem MInv.work {g g' : Mem} {m len : Nat} {b : Nat → Nat} {hb : List (Nat → Nat)} {T : Nat → Nat} {P : List Nat} {v v' : Vl} (h : MInv g m b hb len T P v) (hF : Ch (pL m) g g') (hL : LaM g' m v') : MInv g' m b hb len T P v' := by
  obtain ⟨a1, a2, a3, a4, a5⟩ := h
  refine ⟨a1.ch hF fun j => by unfold pL; omega, a2.ch hF ⟨by unfold pL; omega, fun j => by unfold pL; omega⟩, ⟨(hF.i (by unfold pL; omega)).trans a3.1, fun j hj => (hF.i (by unfold pL; omega)).trans (a3.2 j hj)⟩, ⟨(hF.i (by unfold pL; omega)).trans a4.1, fun j hj => (hF.i (by unfold pL; omega)).trans (a4.2 j hj)⟩, hL⟩
theorem pP_L {m b j : Nat} (h : pP m b j) : pL m b j := by unfold pP at h; unfold pL; omega
theorem pW_L {m b j : Nat} (h : pW m 0 b j) : pL m b j := by unfold pW at h; unfold pL; omega
theorem pF_L {m b j : Nat} (h : pF m b j) : pL m b j := by unfold pF at h; unfold pL; omega
theorem SrcIs.cong {g : Mem} {m len : Nat} {T T' : Nat → Nat} (h : SrcIs g m len T) (e : ∀ k, k < len → T k = T' k) : SrcIs g m len T' := ⟨h.1, fun k hk => by rw [h.2 k hk, e k hk]⟩
/-- reading the query of the state, and working it out -/
theorem m_rd {n : Nat} {Z : Zt} {m : Nat} {b : Nat → Nat} {pre : List Nd} {g : Mem} (hn : 100 ≤ n) (hZ : MZ Z m) (hb : BOk b) (hP : Prs b pre) (hS : SrcIs g m (b 84) fun k => b (85 + k)) : ∃ g', f_X11_reads n Z m g = some (1, g') ∧ SIs g' m (post pre) ∧ Ch (pP m) g g' := by
  have hT := tq_ok hb
  obtain ⟨S, e⟩ := hP
  obtain ⟨k1, k2, k3, k4, k5⟩ := prunT_ok hT e
  obtain ⟨g', a1, a2, a3⟩ := m_reads (n := n) hn hZ hT (hS.cong fun k hk => by unfold tq; rw [if_pos hk])
  rw [e] at a2 a3
  dsimp only at a3
  rw [if_pos rfl, k2] at a3
  exact ⟨g', a3.2, a3.1, a1⟩
theorem m_wk {n : Nat} {Z : Zt} {m w : Nat} {b : Nat → Nat} {pre : List Nd} {g : Mem} (hn : 100 ≤ n) (hZ : MZ Z m) (hb : BOk b) (hP : Prs b pre) (hw : qw b pre = some w) (hB : BIs g m b) (hS : SIs g m (post pre)) : ∃ g', Ch (pW m 0) g g' ∧ match qv b pre with
      | some v => f_X11_works n Z m g = some (1, g') ∧ MR g' m 0 v.1 v.2
      | none => f_X11_works n Z m g = some (0, g') := by
  obtain ⟨k1, k2, k3⟩ := hP.ok hb
  have := hb.2.2.1
  exact m_works hn hZ hb hB k1 (by omega) k2 ⟨w, hw⟩ hS
theorem m_lays_ans {n : Nat} {Z : Zt} {m len : Nat} {b : Nat → Nat} {hb : List (Nat → Nat)} {T : Nat → Nat} {P : List Nat} {v : Vl} {g : Mem} (hn : 100 ≤ n) (hZ : MZ Z m) (hB : BOk b) (hv : Ans b v) (h : MInv g m b hb len T P v) : ∃ g', f_X11_laysAnswer n Z m g = some ((), g') ∧ MInv g' m b hb len T P v ∧ gI g' m 26 = 1 ∧ MR g' m 0 v.1 v.2 ∧ Ch (pL m) g g' := by
  rcases h.2.2.2.2 with h26 | ⟨h26, hMR⟩
  · obtain ⟨g0, e0⟩ : ∃ g0, g0 = sI (sI (sI g m 26 (1 : Int32)) (m + 13) 0 (0 : Int32)) (m + 12) 0 (0 : Int32) := ⟨_, rfl⟩
    have F0 : Ch (pL m) g g0 := by
      rw [e0]
      exact ((Ch.rfl.sI (by unfold pL; omega)).sI (by unfold pL; omega)).sI (by unfold pL; omega)
    have h0 : BIs g0 m b := h.1.ch F0 fun j => by unfold pL; omega
    have k26 : gI g0 m 26 = 1 := by rw [e0, gI_sI, if_neg (by omega), gI_sI, if_neg (by omega), gI_sI, if_pos ⟨rfl, rfl⟩]
    have c0 : (0 : Int32).toNatClampNeg = 0 := rfl
    have c84 : (84 : Int32).toNatClampNeg = 84 := by decide
    have E : f_X11_laysAnswer n Z m g = (if gI g0 (m + 1) 84 ≤ 0 then some ((), g0) else bnd (f_X11_takesQuery n Z m g0) fun r15 g16 => bnd (f_X11_reads n Z m g16) fun r18 g19 => if r18 = 0 then some ((), g19) else bnd (f_X11_works n Z m g19) fun r22 g23 => if r22 = 0 then some ((), g23) else some ((), g23)) := by
      unfold f_X11_laysAnswer
      rw [grd_t hZ.k, if_pos h26, hZ.f19, drf_s, grd_t hZ.k19, hZ.l19, grd_t (show inr (0 : Int32) 14 by decide), hZ.f18, drf_s, grd_t hZ.k18, hZ.l18, grd_t (show inr (0 : Int32) 14 by decide), hZ.f0, drf_s, grd_t hZ.k0, hZ.l0, grd_t (show inr (84 : Int32) 145 by decide), c0, c84, ← e0]
    rw [E, h0 84 (by omega)]
    have h60 := hB.2.2.1
    rcases hv with ⟨z1, z2⟩ | ⟨z1, pre, w, z2, z3, z4⟩
    · subst z2
      have hMR : MR g0 m 0 dV.1 dV.2 := by
        refine ⟨?_, ?_, by decide, fun k hk => absurd hk (Nat.not_lt_zero _)⟩
        · rw [e0, gI_sI, if_pos ⟨rfl, rfl⟩]; rfl
        · rw [e0, gI_sI, if_neg (by omega), gI_sI, if_pos ⟨rfl, rfl⟩]; rfl
      exact ⟨g0, by rw [z1, if_pos (show nI 0 ≤ (0 : Int32) by decide)], h.work F0 (Or.inr ⟨k26, hMR⟩), k26, hMR, F0⟩
    · obtain ⟨g1, a1, a2, a3⟩ := m_takesQuery (n := n) hn hZ h60 h0
      have F1 : Ch (pL m) g0 g1 := a3.mono fun b j q => by unfold pL; omega
      obtain ⟨g2, b1, b2, b3⟩ := m_rd (n := n) hn hZ hB z2 a2
      have F2 : Ch (pL m) g1 g2 := b3.mono fun b j q => pP_L q
      have F02 := F0.trans (F1.trans F2)
      obtain ⟨g3, c1, c2⟩ := m_wk (n := n) hn hZ hB z2 z3 (h.1.ch F02 fun j => by unfold pL; omega) b2
      have F3 : Ch (pL m) g g3 := F02.trans (c1.mono fun b j q => pW_L q)
      rw [z4] at c2
      have k3 : gI g3 m 26 = 1 := by rw [c1.i (by unfold pW; omega), b3.i (by unfold pP; omega), a3.i (by omega), k26]
      refine ⟨g3, ?_, h.work F3 (Or.inr ⟨k3, c2.2⟩), k3, c2.2, F3⟩
      rw [if_neg (show ¬ nI (b 84) ≤ (0 : Int32) from nI_nle (by omega) (by omega)), a1, bnd_s, b1, bnd_s, if_neg i10, c2.1, bnd_s, if_neg i10]
  · refine ⟨g, ?_, h, h26, hMR, Ch.rfl⟩
    unfold f_X11_laysAnswer
    rw [grd_t hZ.k, h26, if_neg i10]
/-- whether the query can be worked out, with the rows that there are -/
theorem m_possible {n : Nat} {Z : Zt} {m : Nat} {b : Nat → Nat} {g : Mem} (hn : 100 ≤ n) (hZ : MZ Z m) (hB : BOk b) (hQ : b 84 = 0 ∨ b 84 ≠ 0 ∧ ∃ pre w, Prs b pre ∧ qw b pre = some w) (h0 : BIs g m b) : ∃ r g', f_X11_isPossible n Z m g = some (r, g') ∧ Ch (pL m) g g' ∧ (r = 0 ∧ (∀ v, ¬ Ans b v) ∨ r = 1 ∧ ∃ v, Ans b v) := by
  have h60 := hB.2.2.1
  have c84 : (84 : Int32).toNatClampNeg = 84 := by decide
  unfold f_X11_isPossible
  rw [grd_t hZ.k, hZ.f0, drf_s, grd_t hZ.k0, hZ.l0, grd_t (show inr (84 : Int32) 145 by decide), c84, h0 84 (by omega)]
  rcases hQ with z1 | ⟨z1, pre, w, z2, z3⟩
  · exact ⟨1, g, by rw [z1, if_pos (show nI 0 = 0 from rfl)], Ch.rfl, Or.inr ⟨rfl, dV, Or.inl ⟨z1, rfl⟩⟩⟩
  · rw [if_neg (show ¬ nI (b 84) = (0 : Int32) from neI (b := 0) (by omega) (by omega) z1)]
    obtain ⟨g1, a1, a2, a3⟩ := m_takesQuery (n := n) hn hZ h60 h0
    have F1 : Ch (pL m) g (sI g1 m 26 0) := (a3.mono fun b j q => by unfold pL; omega).sI (by unfold pL; omega)
    have S1 : SrcIs (sI g1 m 26 0) m (b 84) fun k => b (85 + k) := ⟨by rw [gI_sI, if_neg (by omega)]; exact a2.1, fun k hk => by rw [gI_sI, if_neg (by omega)]; exact a2.2 k hk⟩
    obtain ⟨g2, b1, b2, b3⟩ := m_rd (n := n) hn hZ hB z2 S1
    have F2 := F1.trans (b3.mono fun b j q => pP_L q)
    obtain ⟨g3, c1, c2⟩ := m_wk (n := n) hn hZ hB z2 z3 (h0.ch F2 fun j => by unfold pL; omega) b2
    have F3 : Ch (pL m) g g3 := F2.trans (c1.mono fun b j q => pW_L q)
    rw [a1, bnd_s, b1, bnd_s, if_neg i10]
    cases hq : qv b pre with
    | none =>
      rw [hq] at c2
      refine ⟨0, g3, by rw [c2, bnd_s, if_pos rfl], F3, Or.inl ⟨rfl, fun v hv => ?_⟩⟩
      rcases hv with ⟨y, _⟩ | ⟨_, p, w', y1, y2, y3⟩
      · exact z1 y
      · rw [← z2.uniq y1, hq] at y3; cases y3
    | some v =>
      rw [hq] at c2
      exact ⟨1, g3, by rw [c2.1, bnd_s, if_neg i10], F3, Or.inr ⟨rfl, v, Or.inr ⟨z1, pre, w, z2, z3, hq⟩⟩⟩

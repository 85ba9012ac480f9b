/-! WHAT BOTH SIDES HOLD: b the state, hb the history, T the text, P what is printed, v the answer -/
def tq (b : Nat → Nat) : Nat → Nat := fun k => if k < b 84 then b (85 + k) else 0
theorem tq_ok {b : Nat → Nat} (hb : BOk b) : TOk (tq b) (b 84) := ⟨hb.2.2.1, fun k hk => by
  unfold tq; rw [if_pos hk]; have := hb.2.2.2 k hk; omega, fun k hk => by unfold tq; rw [if_neg (by omega)]⟩
/-- the query of a state -/
def Prs (b : Nat → Nat) (pre : List Nd) : Prop := ∃ S, prunT (tq b) = (b 84, some (pre, S))
theorem Prs.uniq {b : Nat → Nat} {p q : List Nd} (h : Prs b p) (h' : Prs b q) : p = q := by
  obtain ⟨S, e⟩ := h
  obtain ⟨S', e'⟩ := h'
  rw [e] at e'
  exact (Prod.mk.inj (Option.some.inj (Prod.mk.inj e').2)).1
/-- the answer of a state -/
def Ans (b : Nat → Nat) (v : Vl) : Prop := (b 84 = 0 ∧ v = dV) ∨ (b 84 ≠ 0 ∧ ∃ pre w, Prs b pre ∧ qw b pre = some w ∧ qv b pre = some v)
/-- a state that can stand -/
def SOk (b : Nat → Nat) : Prop := BOk b ∧ ∃ v, Ans b v
theorem Ans.uniq {b : Nat → Nat} {v v' : Vl} (h : Ans b v) (h' : Ans b v') : v = v' := by
  rcases h with ⟨h1, h2⟩ | ⟨h1, p, w, h2, h3, h4⟩
  · rcases h' with ⟨g1, g2⟩ | ⟨g1, _⟩
    · rw [h2, g2]
    · exact absurd h1 g1
  · rcases h' with ⟨g1, g2⟩ | ⟨g1, p', w', g2, g3, g4⟩
    · exact absurd g1 h1
    · have := h2.uniq g2
      subst this
      rw [h4] at g4
      exact Option.some.inj g4
theorem prunT_empty {T : Nat → Nat} (h : T 0 = 0) : prunT T = (0, none) := by
  unfold prunT prun phead
  simp [h]
/-! the class -/
def CZ (Z : Zt) (c : Nat) : Prop := (zk Z c = 9 ∧ zf Z c 0 = some (c + 1) ∧ zf Z c 1 = some (c + 9) ∧ zf Z c 2 = some (c + 17) ∧ zf Z c 3 = some (c + 51) ∧ zf Z c 4 = some (c + 53) ∧ zf Z c 5 = some (c + 55) ∧ zf Z c 6 = some (c + 61) ∧ zf Z c 7 = some (c + 67) ∧ zf Z c 8 = some (c + 1455) ∧ zf Z c 9 = some (c + 1458)) ∧ SZ Z (c + 1) ∧ SZ Z (c + 9) ∧ HZ Z (c + 17) ∧ LZ Z (c + 51) 60 ∧ LZ Z (c + 53) 1024 ∧ QZ Z (c + 55) ∧ QZ Z (c + 61) ∧ EZ Z (c + 67) ∧ PZ Z (c + 1455) ∧ TZ Z (c + 1458)
theorem CZ.k {Z : Zt} {c : Nat} (h : CZ Z c) : zk Z c = 9 := h.1.1
theorem CZ.f0 {Z : Zt} {c : Nat} (h : CZ Z c) : zf Z c 0 = some (c + 1) := h.1.2.1
theorem CZ.f1 {Z : Zt} {c : Nat} (h : CZ Z c) : zf Z c 1 = some (c + 9) := h.1.2.2.1
theorem CZ.f2 {Z : Zt} {c : Nat} (h : CZ Z c) : zf Z c 2 = some (c + 17) := h.1.2.2.2.1
theorem CZ.f3 {Z : Zt} {c : Nat} (h : CZ Z c) : zf Z c 3 = some (c + 51) := h.1.2.2.2.2.1
theorem CZ.f4 {Z : Zt} {c : Nat} (h : CZ Z c) : zf Z c 4 = some (c + 53) := h.1.2.2.2.2.2.1
theorem CZ.f5 {Z : Zt} {c : Nat} (h : CZ Z c) : zf Z c 5 = some (c + 55) := h.1.2.2.2.2.2.2.1
theorem CZ.f6 {Z : Zt} {c : Nat} (h : CZ Z c) : zf Z c 6 = some (c + 61) := h.1.2.2.2.2.2.2.2.1
theorem CZ.f7 {Z : Zt} {c : Nat} (h : CZ Z c) : zf Z c 7 = some (c + 67) := h.1.2.2.2.2.2.2.2.2.1
theorem CZ.f8 {Z : Zt} {c : Nat} (h : CZ Z c) : zf Z c 8 = some (c + 1455) := h.1.2.2.2.2.2.2.2.2.2.1
theorem CZ.f9 {Z : Zt} {c : Nat} (h : CZ Z c) : zf Z c 9 = some (c + 1458) := h.1.2.2.2.2.2.2.2.2.2.2
theorem CZ.st {Z : Zt} {c : Nat} (h : CZ Z c) : SZ Z (c + 1) := h.2.1
theorem CZ.tr {Z : Zt} {c : Nat} (h : CZ Z c) : SZ Z (c + 9) := h.2.2.1
theorem CZ.hi {Z : Zt} {c : Nat} (h : CZ Z c) : HZ Z (c + 17) := h.2.2.2.1
theorem CZ.tx {Z : Zt} {c : Nat} (h : CZ Z c) : LZ Z (c + 51) 60 := h.2.2.2.2.1
theorem CZ.pa {Z : Zt} {c : Nat} (h : CZ Z c) : LZ Z (c + 53) 1024 := h.2.2.2.2.2.1
theorem CZ.dr {Z : Zt} {c : Nat} (h : CZ Z c) : QZ Z (c + 55) := h.2.2.2.2.2.2.1
theorem CZ.cu {Z : Zt} {c : Nat} (h : CZ Z c) : QZ Z (c + 61) := h.2.2.2.2.2.2.2.1
theorem CZ.ev {Z : Zt} {c : Nat} (h : CZ Z c) : EZ Z (c + 67) := h.2.2.2.2.2.2.2.2.1
theorem CZ.sh {Z : Zt} {c : Nat} (h : CZ Z c) : PZ Z (c + 1455) := h.2.2.2.2.2.2.2.2.2.1
theorem CZ.ts {Z : Zt} {c : Nat} (h : CZ Z c) : TZ Z (c + 1458) := h.2.2.2.2.2.2.2.2.2.2
/-- the current query -/
def CQ (g : Mem) (q : Nat) (b : Nat → Nat) : Prop := (b 84 = 0 ∧ gI g q 9 = 0) ∨ (b 84 ≠ 0 ∧ ∃ pre w, Prs b pre ∧ qw b pre = some w ∧ QIs g q pre ∧ gI g q 9 = 1)
theorem CQ.fr {g g' : Mem} {q lo hi : Nat} {b : Nat → Nat} (h : CQ g q b) (hF : Fr lo hi g g') (h1 : q + 6 ≤ lo ∨ hi ≤ q) : CQ g' q b := by
  rcases h with ⟨a1, a2⟩ | ⟨a1, pre, w, a2, a3, a4, a5⟩
  · exact Or.inl ⟨a1, (hF.i (by omega) _).trans a2⟩
  · exact Or.inr ⟨a1, pre, w, a2, a3, a4.fr hF (by omega), (hF.i (by omega) _).trans a5⟩
/-- the Evaluator holds the answer -/
def EA (g : Mem) (a : Nat) (v : Vl) : Prop := ∃ ρ C, EvIs g a ρ C ∧ C 13 = (v.1, pkR v.2)
theorem EA.fr {g g' : Mem} {a lo hi : Nat} {v : Vl} (h : EA g a v) (hF : Fr lo hi g g') (h1 : a + 1388 ≤ lo ∨ hi ≤ a) : EA g' a v := by
  obtain ⟨ρ, C, a1, a2⟩ := h
  exact ⟨ρ, C, a1.fr hF h1, a2⟩
def CInv (g : Mem) (c : Nat) (b : Nat → Nat) (hb : List (Nat → Nat)) (len : Nat) (T : Nat → Nat) (P : List Nat) (v : Vl) : Prop := StIs g (c + 1) b ∧ (∃ σ, HsIs g (c + 17) σ hb) ∧ LIs g (c + 51) len T ∧ LIs g (c + 53) P.length (fun k => P.getD k 0) ∧ CQ g (c + 61) b ∧ EA g (c + 67) v
theorem CInv.fr {g g' : Mem} {c lo hi len : Nat} {b : Nat → Nat} {hb : List (Nat → Nat)} {T : Nat → Nat} {P : List Nat} {v : Vl} (h : CInv g c b hb len T P v) (hF : Fr lo hi g g') (h1 : c + 1462 ≤ lo ∨ hi ≤ c) : CInv g' c b hb len T P v := by
  obtain ⟨a1, ⟨σ, a2⟩, a3, a4, a5, a6⟩ := h
  exact ⟨a1.fr hF (by omega), ⟨σ, a2.fr hF (by omega)⟩, a3.fr hF (by omega), a4.fr hF (by omega), a5.fr hF (by omega), a6.fr hF (by omega)⟩
/-- reading the query of a state anew -/
theorem c_reread {n : Nat} {Z : Zt} {c : Nat} {b : Nat → Nat} {g : Mem} (hn : 100 ≤ n) (hZ : CZ Z c) (hb : SOk b) (hS : StIs g (c + 1) b) : ∃ r g', f_X6_read n Z (c + 61) (c + 1 + 6) g = some (r, g') ∧ CQ g' (c + 61) b ∧ Fr (c + 61) (c + 67) g g' := by
  have hT := tq_ok hb.1
  have hL : LIs g (c + 1 + 6) (b 84) (tq b) := hS.2.2.2.2.cong fun k hk => by unfold tq; rw [if_pos hk]
  obtain ⟨g', a1, a2, a3⟩ := c_read (n := n) hn hZ.cu hZ.st.2 hT (by omega) hL
  obtain ⟨v, hv⟩ := hb.2
  rcases hv with ⟨h1, h2⟩ | ⟨h1, pre, w, ⟨S, h2⟩, h3, h4⟩
  · have e : prunT (tq b) = (0, none) := prunT_empty (by unfold tq; rw [if_neg (by omega)])
    rw [e] at a2 a3
    exact ⟨0, g', a3.1, Or.inl ⟨h1, a3.2⟩, a1⟩
  · rw [h2] at a2 a3
    dsimp only at a3
    rw [if_pos rfl] at a3
    exact ⟨1, g', a3.2.1, Or.inr ⟨h1, pre, w, ⟨S, h2⟩, h3, a3.1, a3.2.2⟩, a1⟩
theorem Prs.ok {b : Nat → Nat} {pre : List Nd} (hb : BOk b) (h : Prs b pre) : wfn pre 1 ∧ (∀ x ∈ pre, NOk x) ∧ ownL pre = b 84 := by
  obtain ⟨S, e⟩ := h
  obtain ⟨a1, a2, a3, a4, a5⟩ := prunT_ok (tq_ok hb) e
  exact ⟨a1, a3, a4⟩
/-- computing the answer of a state of which the query is current -/
theorem c_comp {n : Nat} {Z : Zt} {c s : Nat} {b : Nat → Nat} {g : Mem} {ρ : Nat → Nat} {C : Nat → Vl} (hn : 100 ≤ n) (hZ : CZ Z c) (hZs : SZ Z s) (hds : s + 8 ≤ c + 67 ∨ c + 67 + 1388 ≤ s) (hb : BOk b) (hS : StIs g s b) (hQ : CQ g (c + 61) b) (hE : EvIs g (c + 67) ρ C) : ∃ o, VRes (f_X0_compute n Z (c + 67) (c + 61) s g) g (c + 67) C o ∧ ∀ v, o = some v ↔ Ans b v := by
  rcases hQ with ⟨h1, h2⟩ | ⟨h1, pre, w, h2, h3, h4, h5⟩
  · refine ⟨some dV, c_compute_no hZ.ev hZ.cu (by omega) h2 hE, fun v => ⟨fun e => Or.inl ⟨h1, (Option.some.inj e).symm⟩, fun e => ?_⟩⟩
    rcases e with ⟨_, e⟩ | ⟨e, _⟩
    · rw [e]
    · exact absurd h1 e
  · obtain ⟨k1, k2, k3⟩ := h2.ok hb
    have := hb.2.2.1
    refine ⟨qv b pre, c_compute hn hZ.ev hZ.cu hZs hb (by omega) hds k2 k1 (by omega) h3 h4 h5 hS hE, fun v => ⟨fun e => Or.inr ⟨h1, pre, w, h2, h3, e⟩, fun e => ?_⟩⟩
    rcases e with ⟨e, _⟩ | ⟨_, p, w', e1, e2, e3⟩
    · exact absurd e h1
    · rw [h2.uniq e1]; exact e3
theorem c_refresh {n : Nat} {Z : Zt} {c : Nat} {b : Nat → Nat} {v v0 : Vl} {g : Mem} (hn : 100 ≤ n) (hZ : CZ Z c) (hb : BOk b) (hv : Ans b v) (hS : StIs g (c + 1) b) (hQ : CQ g (c + 61) b) (hE : EA g (c + 67) v0) : ∃ g', f_X10_refreshAnswer n Z c g = some ((), g') ∧ EA g' (c + 67) v ∧ Fr (c + 67) (c + 67 + 1388) g g' := by
  obtain ⟨ρ, C, e1, e2⟩ := hE
  obtain ⟨o, ho, ho2⟩ := c_comp hn hZ hZ.st (by omega) hb hS hQ e1
  have := (ho2 v).mpr hv
  subst this
  obtain ⟨g1, ρ1, C1, f1, f2, f3, f4, f5⟩ := ho
  obtain ⟨g2, ρ2, C2, k1, k2, k3, k4⟩ := c_keep (n := n) hZ.ev f2
  refine ⟨g2, ?_, ⟨ρ2, C2, k2, k3.trans f3⟩, f4.trans (k4.mono (by omega) (by omega))⟩
  unfold f_X10_refreshAnswer
  rw [grd_t hZ.k, hZ.f7, drf_s, hZ.f6, drf_s, hZ.f0, drf_s, f1, bnd_s, if_neg i10, drf_s, k1, bnd_s]
/-! the reference -/
/-- working places of the reference -/
def pL (m b j : Nat) : Prop := (b = m ∧ j ≠ 2 ∧ j ≠ 4 ∧ j ≠ 31) ∨ (m + 4 ≤ b ∧ b ≤ m + 19)
theorem pP_L {m b j : Nat} (h : pP m b j) : pL m b j := by unfold pP at h; unfold pL; omega
theorem pW_L {m b j : Nat} (h : pW m 0 b j) : pL m b j := by unfold pW at h; unfold pL; omega
theorem pF_L {m b j : Nat} (h : pF m b j) : pL m b j := by unfold pF at h; unfold pL; omega
theorem SrcIs.cong {g : Mem} {m len : Nat} {T T' : Nat → Nat} (h : SrcIs g m len T) (e : ∀ k, k < len → T k = T' k) : SrcIs g m len T' := ⟨h.1, fun k hk => by rw [h.2 k hk, e k hk]⟩

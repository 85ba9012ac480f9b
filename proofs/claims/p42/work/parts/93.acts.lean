/-! THE CLASS ALONE: actions, the text -/
/-! a text is read no further than it is long -/
theorem tDig_in {T : Nat → Nat} {len p lim d : Nat} (hT : TOk T len) (h : tDig T p lim = some d) : p < len := hT.in_ (by
  unfold tDig at h
  by_cases q : 48 ≤ T p ∧ T p < 48 + lim
  · omega
  · rw [if_neg q] at h; cases h)
theorem psel_le {T : Nat → Nat} {len p : Nat} (hT : TOk T len) (hp : p ≤ len) : (psel T p).2 ≤ len := by
  unfold psel
  cases h1 : tDig T p 4 with
  | none => exact hp
  | some a =>
    have k0 := tDig_in hT h1
    dsimp only
    by_cases h2 : T (p + 1) = 126
    · rw [if_pos h2]
      have k1 := hT.in_ (k := p + 1) (by omega)
      cases h3 : tDig T (p + 2) 4 with
      | none => show p + 2 ≤ len; omega
      | some c =>
        have k2 := tDig_in hT h3
        dsimp only
        by_cases h4 : T (p + 3) = 40
        · rw [if_pos h4]
          have := hT.in_ (k := p + 3) (by omega)
          show p + 4 ≤ len; omega
        · rw [if_neg h4]; show p + 3 ≤ len; omega
    · rw [if_neg h2]
      by_cases h5 : T (p + 1) = 61
      · rw [if_pos h5]
        have k1 := hT.in_ (k := p + 1) (by omega)
        cases h3 : tDig T (p + 2) 10 with
        | none => show p + 2 ≤ len; omega
        | some c =>
          have k2 := tDig_in hT h3
          dsimp only
          by_cases h4 : T (p + 3) = 40
          · rw [if_pos h4]
            have := hT.in_ (k := p + 3) (by omega)
            show p + 4 ≤ len; omega
          · rw [if_neg h4]; show p + 3 ≤ len; omega
      · rw [if_neg h5]; show p + 1 ≤ len; omega
theorem pend_le {T : Nat → Nat} {len p cnt nd : Nat} (hT : TOk T len) (hp : p ≤ len) : (pend T p cnt nd).2 ≤ len := by
  unfold pend
  by_cases h : 0 < cnt ∧ T p = 40
  · rw [if_pos h]
    have := hT.in_ (k := p) (by omega)
    show p + 1 ≤ len; omega
  · rw [if_neg h]; exact hp
theorem pprj_le {T : Nat → Nat} {len : Nat} (hT : TOk T len) : ∀ (f p cnt nd : Nat), p ≤ len → (pprj T f p cnt nd).2 ≤ len
  | 0, p, cnt, nd, hp => pend_le hT hp
  | f + 1, p, cnt, nd, hp => by
    rw [pprj]
    cases h : tDig T p 4 with
    | none => exact pend_le hT hp
    | some d => exact pprj_le hT f (p + 1) _ _ (by have := tDig_in hT h; omega)
theorem pjoi_le {T : Nat → Nat} {len p : Nat} (hT : TOk T len) (hp : p ≤ len) : (pjoi T p).2 ≤ len := by
  unfold pjoi
  cases h1 : tDig T p 4 with
  | none => exact hp
  | some a =>
    have k0 := tDig_in hT h1
    dsimp only
    cases h2 : tDig T (p + 1) 4 with
    | none => show p + 1 ≤ len; omega
    | some d =>
      have k1 := tDig_in hT h2
      dsimp only
      by_cases h4 : T (p + 2) = 40
      · rw [if_pos h4]
        have := hT.in_ (k := p + 2) (by omega)
        show p + 3 ≤ len; omega
      · rw [if_neg h4]; show p + 2 ≤ len; omega
theorem phead_le {T : Nat → Nat} {len p : Nat} (hT : TOk T len) (hp : p ≤ len) : (phead T p).2 ≤ len := by
  unfold phead
  by_cases c1 : 65 ≤ T p ∧ T p < 69
  · rw [if_pos c1]
    have := hT.in_ (k := p) (by omega)
    show p + 1 ≤ len; omega
  rw [if_neg c1]
  by_cases c2 : T p = 106
  · rw [if_pos c2]
    have := hT.in_ (k := p) (by omega)
    exact pjoi_le hT (by omega)
  rw [if_neg c2]
  by_cases c3 : T p = 112
  · rw [if_pos c3]
    have := hT.in_ (k := p) (by omega)
    exact pprj_le hT 4 (p + 1) 0 0 (by omega)
  rw [if_neg c3]
  by_cases c4 : T p = 115
  · rw [if_pos c4]
    have := hT.in_ (k := p) (by omega)
    exact psel_le hT (by omega)
  rw [if_neg c4]
  by_cases c5 : T p = 117
  · rw [if_pos c5]
    have := hT.in_ (k := p) (by omega)
    by_cases c6 : T (p + 1) = 40
    · rw [if_pos c6]
      have := hT.in_ (k := p + 1) (by omega)
      show p + 2 ≤ len; omega
    · rw [if_neg c6]; show p + 1 ≤ len; omega
  rw [if_neg c5]; exact hp
theorem prun_le {T : Nat → Nat} {len : Nat} (hT : TOk T len) : ∀ (f p : Nat) (w : Bool) (O : List (Nd × Nat)) (pre S : List Nd), p ≤ len → (prun T f p w O pre S).1 ≤ len := by
  intro f
  induction f with
  | zero => intro p w O pre S hp; exact hp
  | succ f ih =>
    intro p w O pre S hp
    cases w with
    | false =>
      show (match phead T p with
        | (none, p') => (p', none)
        | (some nd, p') => if ar nd.1 = 0 then prun T f p' true O (pre ++ [nd]) (S ++ [nd]) else prun T f p' false ((nd, 0) :: O) (pre ++ [nd]) S).1 ≤ len
      have hl := phead_le hT hp
      cases hph : phead T p with
      | mk r p1 =>
        rw [hph] at hl
        cases r with
        | none => exact hl
        | some nd =>
          show (if ar nd.1 = 0 then prun T f p1 true O (pre ++ [nd]) (S ++ [nd]) else prun T f p1 false ((nd, 0) :: O) (pre ++ [nd]) S).1 ≤ len
          by_cases ha : ar nd.1 = 0
          · rw [if_pos ha]; exact ih _ _ _ _ _ hl
          · rw [if_neg ha]; exact ih _ _ _ _ _ hl
    | true =>
      cases O with
      | nil => exact hp
      | cons e O =>
        obtain ⟨nd, k⟩ := e
        show (if ar nd.1 = 2 ∧ k = 0 then (if T p = 44 then prun T f (p + 1) false ((nd, 1) :: O) pre S else (p, none)) else (if T p = 41 then prun T f (p + 1) true O pre (S ++ [nd]) else (p, none))).1 ≤ len
        by_cases hc : ar nd.1 = 2 ∧ k = 0
        · rw [if_pos hc]
          by_cases ht : T p = 44
          · rw [if_pos ht]
            have := hT.in_ (k := p) (by omega)
            exact ih _ _ _ _ _ (by omega)
          · rw [if_neg ht]; exact hp
        · rw [if_neg hc]
          by_cases ht : T p = 41
          · rw [if_pos ht]
            have := hT.in_ (k := p) (by omega)
            exact ih _ _ _ _ _ (by omega)
          · rw [if_neg ht]; exact hp
theorem prunT_le {T : Nat → Nat} {len : Nat} (hT : TOk T len) : (prunT T).1 ≤ len := prun_le hT 62 0 false [] [] [] (Nat.zero_le _)
section ACT
variable {n : Nat} {Z : Zt} {c : Nat} {b : Nat → Nat} {v : Vl}
theorem hist_in {hb : List (Nat → Nat)} (h1 : ∀ x ∈ hb, SOk x) (h2 : SOk b) : ∀ x ∈ rec4 hb b, SOk x := fun x hx => by
  rcases rec4_mem hx with z | z
  · exact h1 x z
  · rw [z]; exact h2
theorem ac_setColumns (hn : 500 ≤ n) (hC : CZ Z c) {t w : Nat} (ht : t < 4) (hw1 : 1 ≤ w) (hw : w ≤ 3) (hr : hasR b t = false) (ho : occ b t = false) : Ac c b v (up b t w) v (f_X10_setColumns n Z c (nI t) (nI w)) (nI (b t)) := fun g hb len T hS => by
  obtain ⟨P, hP, hc⟩ := hS
  obtain ⟨⟨hB, hv0⟩, p2, p3, p4, p5⟩ := id hP
  have hB' := hB.width (w := w) ht hw1 hw hr
  have hwd : ∀ pre, Prs b pre → ∀ x ∈ pre, x.1 = 0 → up b t w x.2.1 = b x.2.1 := fun pre hp x hx h0 => by
    have := hp.occ hx h0
    exact up_ne fun e => by rw [e, ho] at this; cases this
  have hup : ∀ k, 84 ≤ k → up b t w k = b k := fun k hk => up_ne (by omega)
  have hA' : Ans (up b t w) v := p4.cong hwd (fun s hs => ⟨up_ne (by omega), up_ne (by omega)⟩) hup
  obtain ⟨g1, a1, a2, a3⟩ := c_record (n := n) (by omega) hC hB hc
  obtain ⟨g2, b1, b2, b3⟩ := s_setWidth (n := n) (v := w) hC.st a2.1 ht
  obtain ⟨c1, c2⟩ := c_state a2 b3 b2 (a2.2.2.2.2.1.cong hup hwd)
  refine ⟨g2, ?_, ⟨P, ⟨⟨hB', v, hA'⟩, hist_in p2 ⟨hB, hv0⟩, p3, hA', p5⟩, c1⟩, a3.trans c2⟩
  have q1 : ¬ nI w < (1 : Int32) := fun z => by have := (nlt (b := 1) (by omega) (by omega)).mp z; omega
  have q2 : nI w ≤ (3 : Int32) := (nle (b := 3) (by omega) (by omega)).mpr hw
  unfold f_X10_setColumns
  rw [grd_t hC.k, s_isT ht, bnd_s, if_neg i10, if_neg q1, if_pos q2, hC.f0, drf_s, s_rowIn (by omega) hB hC.st hc.1 ht, bnd_s, hr, if_neg ff, if_pos rfl, drf_s, s_names (by omega) hB hC.st hc.1 ht, bnd_s, ho, if_neg ff, if_pos rfl, drf_s, s_width hC.st hc.1 ht, bnd_s, hC.f2, drf_s, drf_s, a1, bnd_s, drf_s, b1, bnd_s]
theorem rd_setColumnsT (hC : CZ Z c) {x y : Int32} (hx : x < 0 ∨ nI 4 ≤ x) : Rd c b v (f_X10_setColumns n Z c x y) (-1) := rd_same fun g hb len T P p q => by
  unfold f_X10_setColumns; rw [grd_t hC.k, s_isTO hx, bnd_s, if_pos rfl]
theorem rd_setColumnsW (hC : CZ Z c) {t w : Nat} (ht : t < 4) (hw : w = 0 ∨ w = 4) : Rd c b v (f_X10_setColumns n Z c (nI t) (nI w)) (-2) := rd_same fun g hb len T P p q => by
  unfold f_X10_setColumns
  rw [grd_t hC.k, s_isT ht, bnd_s, if_neg i10]
  rcases hw with rfl | rfl
  · rw [if_pos (show nI 0 < (1 : Int32) by decide)]
  · rw [if_neg (show ¬ nI 4 < (1 : Int32) by decide), if_neg (show ¬ nI 4 ≤ (3 : Int32) by decide)]
theorem rd_setColumnsN (hn : 500 ≤ n) (hC : CZ Z c) {t w : Nat} (ht : t < 4) (hw1 : 1 ≤ w) (hw : w ≤ 3) (h : hasR b t = true ∨ occ b t = true) : Rd c b v (f_X10_setColumns n Z c (nI t) (nI w)) (-5) := rd_same fun g hb len T P p q => by
  have hB := p.1.1
  have q1 : ¬ nI w < (1 : Int32) := fun z => by have := (nlt (b := 1) (by omega) (by omega)).mp z; omega
  have q2 : nI w ≤ (3 : Int32) := (nle (b := 3) (by omega) (by omega)).mpr hw
  unfold f_X10_setColumns
  rw [grd_t hC.k, s_isT ht, bnd_s, if_neg i10, if_neg q1, if_pos q2, hC.f0, drf_s, s_rowIn (by omega) hB hC.st q.1 ht, bnd_s]
  cases hr : hasR b t with
  | true => rw [if_pos rfl, if_neg i10]
  | false =>
    have ho : occ b t = true := h.resolve_left fun z => by rw [hr] at z; cases z
    rw [if_neg ff, if_pos rfl, drf_s, s_names (by omega) hB hC.st q.1 ht, bnd_s, ho, if_pos rfl, if_neg i10]
theorem ac_setCost (hn : 500 ≤ n) (hC : CZ Z c) {t w : Nat} (ht : t < 16) (q0 : b (4 + 5 * t) ≠ 0) (hw : w ≤ 999) : Ac c b v (up b (6 + 5 * t) w) v (f_X10_setCost n Z c (nI t) (nI w)) (nI (b (6 + 5 * t))) := fun g hb len T hS => by
  obtain ⟨P, hP, hc⟩ := hS
  obtain ⟨⟨hB, hv0⟩, p2, p3, p4, p5⟩ := id hP
  have hB' := hB.cost ht q0 hw
  have hwd := wid_same (b' := up b (6 + 5 * t) w) hB fun s hs => up_ne (by omega)
  have hup : ∀ k, 84 ≤ k → up b (6 + 5 * t) w k = b k := fun k hk => up_ne (by omega)
  have hA' : Ans (up b (6 + 5 * t) w) v := p4.cong hwd (fun s hs => ⟨up_ne (by omega), up_ne (by omega)⟩) hup
  obtain ⟨g1, a1, a2, a3⟩ := c_record (n := n) (by omega) hC hB hc
  obtain ⟨g2, b1, b2, b3⟩ := s_setCost (n := n) (v := w) hC.st a2.1 ht q0
  obtain ⟨c1, c2⟩ := c_state a2 b3 b2 (a2.2.2.2.2.1.cong hup hwd)
  refine ⟨g2, ?_, ⟨P, ⟨⟨hB', v, hA'⟩, hist_in p2 ⟨hB, hv0⟩, p3, hA', p5⟩, c1⟩, a3.trans c2⟩
  have q2 : nI w ≤ (999 : Int32) := (nle (b := 999) (by omega) (by omega)).mpr hw
  unfold f_X10_setCost
  rw [grd_t hC.k, hC.f0, drf_s, tag_yes hC hc.1 ht q0, bnd_s, if_neg i10, if_neg (fun q => by rw [not_neg (by omega)] at q; exact q), if_pos q2, drf_s, s_cost hC.st hc.1 ht, bnd_s, if_neg q0, hC.f2, drf_s, drf_s, a1, bnd_s, drf_s, b1, bnd_s]
theorem rd_setCostT (hC : CZ Z c) {x y : Int32} (h : ¬ tagI b x) : Rd c b v (f_X10_setCost n Z c x y) (-1) := rd_same fun g hb len T P p q => by
  unfold f_X10_setCost; rw [grd_t hC.k, hC.f0, drf_s, tag_no hC q.1 h, bnd_s, if_pos rfl]
theorem rd_setCostV (hC : CZ Z c) {t w : Nat} (ht : t < 16) (q0 : b (4 + 5 * t) ≠ 0) (hw : 999 < w) (hw2 : w < 2147483648) : Rd c b v (f_X10_setCost n Z c (nI t) (nI w)) (-2) := rd_same fun g hb len T P p q => by
  unfold f_X10_setCost; rw [grd_t hC.k, hC.f0, drf_s, tag_yes hC q.1 ht q0, bnd_s, if_neg i10, if_neg (fun q => by rw [not_neg (by omega)] at q; exact q), if_neg (show ¬ nI w ≤ (999 : Int32) from fun z => by have := (nle (b := 999) (by omega) (by omega)).mp z; omega)]
theorem ac_setTrust (hn : 500 ≤ n) (hC : CZ Z c) {t w : Nat} (ht : t < 16) (q0 : b (4 + 5 * t) ≠ 0) (hw : w ≤ 100) : Ac c b v (up b (7 + 5 * t) w) v (f_X10_setTrust n Z c (nI t) (nI w)) (nI (b (7 + 5 * t))) := fun g hb len T hS => by
  obtain ⟨P, hP, hc⟩ := hS
  obtain ⟨⟨hB, hv0⟩, p2, p3, p4, p5⟩ := id hP
  have hB' := hB.trust ht q0 hw
  have hwd := wid_same (b' := up b (7 + 5 * t) w) hB fun s hs => up_ne (by omega)
  have hup : ∀ k, 84 ≤ k → up b (7 + 5 * t) w k = b k := fun k hk => up_ne (by omega)
  have hA' : Ans (up b (7 + 5 * t) w) v := p4.cong hwd (fun s hs => ⟨up_ne (by omega), up_ne (by omega)⟩) hup
  obtain ⟨g1, a1, a2, a3⟩ := c_record (n := n) (by omega) hC hB hc
  obtain ⟨g2, b1, b2, b3⟩ := s_setTrust (n := n) (v := w) hC.st a2.1 ht q0
  obtain ⟨c1, c2⟩ := c_state a2 b3 b2 (a2.2.2.2.2.1.cong hup hwd)
  refine ⟨g2, ?_, ⟨P, ⟨⟨hB', v, hA'⟩, hist_in p2 ⟨hB, hv0⟩, p3, hA', p5⟩, c1⟩, a3.trans c2⟩
  have q2 : nI w ≤ (100 : Int32) := (nle (b := 100) (by omega) (by omega)).mpr hw
  unfold f_X10_setTrust
  rw [grd_t hC.k, hC.f0, drf_s, tag_yes hC hc.1 ht q0, bnd_s, if_neg i10, if_neg (fun q => by rw [not_neg (by omega)] at q; exact q), if_pos q2, drf_s, s_trust hC.st hc.1 ht, bnd_s, if_neg q0, hC.f2, drf_s, drf_s, a1, bnd_s, drf_s, b1, bnd_s]
theorem rd_setTrustT (hC : CZ Z c) {x y : Int32} (h : ¬ tagI b x) : Rd c b v (f_X10_setTrust n Z c x y) (-1) := rd_same fun g hb len T P p q => by
  unfold f_X10_setTrust; rw [grd_t hC.k, hC.f0, drf_s, tag_no hC q.1 h, bnd_s, if_pos rfl]
theorem rd_setTrustV (hC : CZ Z c) {t w : Nat} (ht : t < 16) (q0 : b (4 + 5 * t) ≠ 0) (hw : 100 < w) (hw2 : w < 2147483648) : Rd c b v (f_X10_setTrust n Z c (nI t) (nI w)) (-2) := rd_same fun g hb len T P p q => by
  unfold f_X10_setTrust; rw [grd_t hC.k, hC.f0, drf_s, tag_yes hC q.1 ht q0, bnd_s, if_neg i10, if_neg (fun q => by rw [not_neg (by omega)] at q; exact q), if_neg (show ¬ nI w ≤ (100 : Int32) from fun z => by have := (nle (b := 100) (by omega) (by omega)).mp z; omega)]
theorem ac_setWithdrawn (hn : 500 ≤ n) (hC : CZ Z c) {t w : Nat} (ht : t < 16) (q0 : b (4 + 5 * t) ≠ 0) (hw : w ≤ 1) : Ac c b v (up b (8 + 5 * t) w) v (f_X10_setWithdrawn n Z c (nI t) (nI w)) (nI (cntP (goneB (up b (8 + 5 * t) w)) v.2)) := fun g hb len T hS => by
  obtain ⟨P, hP, hc⟩ := hS
  obtain ⟨⟨hB, hv0⟩, p2, p3, p4, p5⟩ := id hP
  have hB' := hB.gone ht q0 hw
  have hwd := wid_same (b' := up b (8 + 5 * t) w) hB fun s hs => up_ne (by omega)
  have hup : ∀ k, 84 ≤ k → up b (8 + 5 * t) w k = b k := fun k hk => up_ne (by omega)
  have hA' : Ans (up b (8 + 5 * t) w) v := p4.cong hwd (fun s hs => ⟨up_ne (by omega), up_ne (by omega)⟩) hup
  obtain ⟨g1, a1, a2, a3⟩ := c_record (n := n) (by omega) hC hB hc
  obtain ⟨g2, b1, b2, b3⟩ := s_withdraw (n := n) hC.st a2.1 ht hw
  obtain ⟨c1, c2⟩ := c_state a2 b3 b2 (a2.2.2.2.2.1.cong hup hwd)
  have hG := bm_mk (goneB (up b (8 + 5 * t) w))
  obtain ⟨q, q3, q4⟩ := c_prows (n := n) (g := g2) (by omega) hC c1.2.2.2.2.2 hG
  refine ⟨g2, ?_, ⟨P, ⟨⟨hB', v, hA'⟩, hist_in p2 ⟨hB, hv0⟩, p3, hA', p5⟩, c1⟩, a3.trans c2⟩
  unfold f_X10_setWithdrawn f_X10_presentRows
  rw [grd_t hC.k, hC.f0, drf_s, tag_yes hC hc.1 ht q0, bnd_s, if_neg i10, hC.f2, drf_s, drf_s, a1, bnd_s, drf_s, b1, bnd_s, grd_t hC.k, hC.f7, drf_s, q3, bnd_s, drf_s, s_gone hC.st, bnd_s, drf_s, c1.1.m7, q4, bnd_s, bnd_s]
theorem rd_setWithdrawnT (hC : CZ Z c) {x y : Int32} (h : ¬ tagI b x) : Rd c b v (f_X10_setWithdrawn n Z c x y) (-1) := rd_same fun g hb len T P p q => by
  unfold f_X10_setWithdrawn; rw [grd_t hC.k, hC.f0, drf_s, tag_no hC q.1 h, bnd_s, if_pos rfl]
/-- dropRow: what the answer is afterwards lies within what it was -/
theorem ac_dropRow (hn : 500 ≤ n) (hC : CZ Z c) (hS0 : SOk b) (hA : Ans b v) {t : Nat} (ht : t < 16) (q0 : b (4 + 5 * t) ≠ 0) : ∃ v', Ans (setRow b t 0 0 0 0 0) v' ∧ Ac c b v (setRow b t 0 0 0 0 0) v' (f_X10_dropRow n Z c (nI t)) (nI (pc 16 (mk (tagB (setRow b t 0 0 0 0 0)) 16))) := by
  have hB := hS0.1
  have hB' := hB.drop ht
  have hup : ∀ k, 84 ≤ k → setRow b t 0 0 0 0 0 k = b k := fun k hk => setRow_hi ht hk
  have hwd := wid_same (b' := setRow b t 0 0 0 0 0) hB fun s hs => setRow_lo hs
  obtain ⟨v', hv'⟩ := hA.drop (b' := setRow b t 0 0 0 0 0) hB (fun s hs => setRow_lo hs) (fun s u hu e => by
    rw [setRow_4] at e
    rw [setRow_5]
    by_cases z : u = t
    · rw [if_pos z] at e; omega
    · rw [if_neg z] at e; rw [if_neg z]; exact ⟨e, rfl⟩) hup
  refine ⟨v', hv', fun g hb len T hS => ?_⟩
  obtain ⟨P, hP, hc⟩ := hS
  obtain ⟨⟨-, hv0⟩, p2, p3, p4, p5⟩ := id hP
  obtain ⟨g1, a1, a2, a3⟩ := c_record (n := n) (by omega) hC hB hc
  obtain ⟨g2, b1, b2, b3⟩ := s_remove (n := n) hC.st a2.1 ht
  obtain ⟨c1, c2⟩ := c_state a2 b3 b2 (a2.2.2.2.2.1.cong hup hwd)
  obtain ⟨g3, d1, d2, d3⟩ := c_refresh (n := n) (by omega) hC hB' hv' c1.1 c1.2.2.2.2.1 c1.2.2.2.2.2
  have hc3 : CInv g3 c (setRow b t 0 0 0 0 0) (rec4 hb b) len T P v' := by
    obtain ⟨e1, ⟨σ, e2⟩, e3, e4, e5, e6⟩ := c1
    exact ⟨e1.fr d3 (by omega), ⟨σ, e2.fr d3 (by omega)⟩, e3.fr d3 (by omega), e4.fr d3 (by omega), e5.fr d3 (by omega), d2⟩
  have F3 : Fr c (c + 1462) g g3 := (a3.trans c2).trans (d3.mono (by omega) (by omega))
  have hlt := (bm_mk (tagB (setRow b t 0 0 0 0 0))).1
  refine ⟨g3, ?_, ⟨P, ⟨⟨hB', v', hv'⟩, hist_in p2 ⟨hB, hv0⟩, p3, hv', p5⟩, hc3⟩, F3⟩
  unfold f_X10_dropRow
  rw [grd_t hC.k, hC.f0, drf_s, tag_yes hC hc.1 ht q0, bnd_s, if_neg i10, hC.f2, drf_s, drf_s, a1, bnd_s, drf_s, b1, bnd_s, d1, bnd_s, drf_s, s_mask hC.st, bnd_s, hc3.1.m6, c_bits hlt, bnd_s]
theorem rd_dropRowT (hC : CZ Z c) {x : Int32} (h : ¬ tagI b x) : Rd c b v (f_X10_dropRow n Z c x) (-1) := rd_same fun g hb len T P p q => by
  unfold f_X10_dropRow; rw [grd_t hC.k, hC.f0, drf_s, tag_no hC q.1 h, bnd_s, if_pos rfl]
theorem rd_addRowT (hC : CZ Z c) {x y : Int32} (hx : x < 0 ∨ nI 4 ≤ x) : Rd c b v (f_X10_addRow n Z c x y) (-1) := rd_same fun g hb len T P p q => by
  unfold f_X10_addRow; rw [grd_t hC.k, s_isTO hx, bnd_s, if_pos rfl]
theorem addRow_eq {g : Mem} {x2 : Int32} {tab : Nat} (hC : CZ Z c) (hc : StIs g (c + 1) b) (htab : tab < 4) : f_X10_addRow n Z c (nI tab) x2 g = if x2 < 0 then some ((-2 : Int32), g) else bnd (f_X2_hasMoreDigits n Z x2 (nI (b tab)) g) fun r11 g12 => if r11 = 0 then (bnd (f_X8_freeTag n Z (c + 1) g12) fun r17 g18 => if 0 ≤ r17 then (bnd (f_X8_copy n Z (c + 9) (c + 1) g18) fun r25 g26 => bnd (f_X2_ofDecimal n Z x2 (nI (b tab)) g26) fun r30 g31 => bnd (f_X8_place n Z (c + 9) r17 (nI tab) r30 g31) fun r33 g34 => bnd (f_X0_compute n Z (c + 67) (c + 61) (c + 9) g34) fun r42 g43 => if r42 = 0 then some ((-4 : Int32), g43) else bnd (f_X1_record n Z (c + 17) (c + 1) g43) fun r50 g51 => bnd (f_X8_copy n Z (c + 1) (c + 9) g51) fun r57 g58 => bnd (f_X0_keepResult n Z (c + 67) g58) fun r62 g63 => some (r17, g63)) else some ((-4 : Int32), g18)) else some ((-2 : Int32), g12) := by
  unfold f_X10_addRow
  simp only [grd_t hC.k, s_isT htab, bnd_s, if_neg i10, hC.f0, hC.f1, hC.f2, hC.f6, hC.f7, drf_s, s_width hC.st hc htab]
theorem rd_addRowV (hn : 500 ≤ n) (hC : CZ Z c) {tab w : Nat} (htab : tab < 4) (hw : 10 ^ b tab ≤ w) (hw2 : w < 2147483648) : Rd c b v (f_X10_addRow n Z c (nI tab) (nI w)) (-2) := rd_same fun g hb len T P p q => by
  obtain ⟨w1, w2⟩ := p.1.1.1 tab htab
  rw [addRow_eq hC q.1 htab, if_neg (fun q => by rw [not_neg (by omega)] at q; exact q), c_more (by omega) hw2 (by omega), bnd_s, if_neg (show ¬ w < 10 ^ b tab by omega), if_neg i10]
theorem rd_addRowF (hn : 500 ≤ n) (hC : CZ Z c) {tab w : Nat} (htab : tab < 4) (hw : w < 10 ^ b tab) (hf : FT b none) : Rd c b v (f_X10_addRow n Z c (nI tab) (nI w)) (-4) := rd_same fun g hb len T P p q => by
  obtain ⟨w1, w2⟩ := p.1.1.1 tab htab
  have hp3 : 10 ^ b tab ≤ 10 ^ 3 := Nat.pow_le_pow_right (by omega) w2
  obtain ⟨o, ho, hoC⟩ := s_free (n := n) (by omega) hC.st q.1
  have ho : o = none := ho.uniq hf
  subst ho
  rw [addRow_eq hC q.1 htab, if_neg (fun q => by rw [not_neg (by omega)] at q; exact q), c_more (by omega) (by omega) (by omega), bnd_s, if_pos hw, if_pos rfl, hoC, bnd_s]
  rfl
/-- addRow where there is a tag: too large, or a new row -/
theorem ac_addRow (hn : 500 ≤ n) (hC : CZ Z c) (hB : BOk b) {tab vv t : Nat} (htab : tab < 4) (hvv : vv < 10 ^ b tab) (hf : FT b (some t)) : (b 84 ≠ 0 ∧ Rd c b v (f_X10_addRow n Z c (nI tab) (nI vv)) (-4)) ∨ ∃ v', Ans (setRow b t (tab + 1) vv 1 100 0) v' ∧ Ac c b v (setRow b t (tab + 1) vv 1 100 0) v' (f_X10_addRow n Z c (nI tab) (nI vv)) (nI t) := by
  obtain ⟨w1, w2⟩ := hB.1 tab htab
  have hp3 : 10 ^ b tab ≤ 10 ^ 3 := Nat.pow_le_pow_right (by omega) w2
  obtain ⟨ht, ht0, -⟩ := id hf
  have hB' := hB.place ht htab hvv
  have hup : ∀ k, 84 ≤ k → setRow b t (tab + 1) vv 1 100 0 k = b k := fun k hk => setRow_hi ht hk
  have hwd := wid_same (b' := setRow b t (tab + 1) vv 1 100 0) hB fun s hs => setRow_lo hs
  -- the trial
  have TRY : ∀ g hb len T P, PInv b hb len T P v → CInv g c b hb len T P v → ∃ g2 ρ C oc, CQ g2 (c + 61) (setRow b t (tab + 1) vv 1 100 0) ∧ Fr (c + 9) (c + 17) g g2 ∧ StIs g2 (c + 9) (setRow b t (tab + 1) vv 1 100 0) ∧ EvIs g2 (c + 67) ρ C ∧ C 13 = (v.1, pkR v.2) ∧ VRes (f_X0_compute n Z (c + 67) (c + 61) (c + 9) g2) g2 (c + 67) C oc ∧ (∀ u, oc = some u ↔ Ans (setRow b t (tab + 1) vv 1 100 0) u) ∧ f_X10_addRow n Z c (nI tab) (nI vv) g = bnd (f_X0_compute n Z (c + 67) (c + 61) (c + 9) g2) (fun r42 g43 => if r42 = 0 then (some ((-4 : Int32), g43)) else (bnd (f_X1_record n Z (c + 17) (c + 1) g43) (fun r50 g51 => bnd (f_X8_copy n Z (c + 1) (c + 9) g51) (fun r57 g58 => bnd (f_X0_keepResult n Z (c + 67) g58) (fun r62 g63 => some (nI t, g63)))))) := fun g hb len T P hP hc => by
    obtain ⟨o, ho, hoC⟩ := s_free (n := n) (by omega) hC.st hc.1
    have ho : o = some t := ho.uniq hf
    subst ho
    obtain ⟨g1, a1, a2, a3⟩ := s_copy (n := n) (by omega) hC.tr hC.st hB (by omega) hc.1
    obtain ⟨g2, b1, b2, b3⟩ := s_place (n := n) (tab := tab) (v := vv) hC.tr a2 ht
    have F12 := a3.trans b3
    have hQ2 : CQ g2 (c + 61) (setRow b t (tab + 1) vv 1 100 0) := (hc.2.2.2.2.1.fr F12 (by omega)).cong hup hwd
    obtain ⟨ρ, C, r1, r2⟩ := hc.2.2.2.2.2.fr F12 (by omega)
    obtain ⟨oc, hoc, hoc2⟩ := c_comp (n := n) (by omega) hC hC.tr (by omega) hB' b2 hQ2 r1
    refine ⟨g2, ρ, C, oc, hQ2, F12, b2, r1, r2, hoc, hoc2, ?_⟩
    rw [addRow_eq hC hc.1 htab, if_neg (fun q => by rw [not_neg (by omega)] at q; exact q), c_more (by omega) (by omega) (by omega), bnd_s, if_pos hvv, if_pos rfl, hoC, bnd_s]
    show (if 0 ≤ nI t then _ else _) = _
    rw [if_pos (nI_pos' (by omega)), a1, bnd_s, c_ofDec (by omega) hvv w2, bnd_s]
    show bnd (f_X8_place n Z (c + 9) (nI t) (nI tab) (nI (pk vv)) g1) _ = _
    rw [b1, bnd_s]
  by_cases hex : ∃ u, Ans (setRow b t (tab + 1) vv 1 100 0) u
  case neg =>
    refine Or.inl ⟨fun z => hex ⟨dV, Or.inl ⟨by rw [hup 84 (by omega)]; exact z, rfl⟩⟩, fun g hb len T hS => ?_⟩
    obtain ⟨P, hP, hc⟩ := hS
    obtain ⟨g2, ρ, C, oc, hQ2, F12, b2, r1, r2, hoc, hoc2, e⟩ := TRY g hb len T P hP hc
    have : oc = none := by
      cases oc with
      | none => rfl
      | some u => exact absurd ⟨u, (hoc2 u).mp rfl⟩ hex
    subst this
    obtain ⟨g3, ρ', C', e1, e2, e3, e4⟩ := hoc
    have FC : Fr c (c + 1462) g g3 := (F12.mono (by omega) (by omega)).trans (e3.mono (by omega) (by omega))
    have hc3 : CInv g3 c b hb len T P v := by
      obtain ⟨y1, ⟨σ, y2⟩, y3, y4, y5, y6⟩ := hc
      exact ⟨(y1.fr F12 (by omega)).fr e3 (by omega), ⟨σ, (y2.fr F12 (by omega)).fr e3 (by omega)⟩, (y3.fr F12 (by omega)).fr e3 (by omega), (y4.fr F12 (by omega)).fr e3 (by omega), (y5.fr F12 (by omega)).fr e3 (by omega), ρ', C', e2, e4.trans r2⟩
    exact ⟨g3, by rw [e, e1, bnd_s, if_pos rfl], ⟨P, hP, hc3⟩, FC⟩
  obtain ⟨v', hv'⟩ := hex
  refine Or.inr ⟨v', hv', fun g hb len T hS => ?_⟩
  obtain ⟨P, hP, hc⟩ := hS
  obtain ⟨⟨-, hv0⟩, p2, p3, p4, p5⟩ := id hP
  obtain ⟨g2, ρ, C, oc, hQ2, F12, b2, r1, r2, hoc, hoc2, e⟩ := TRY g hb len T P hP hc
  have : oc = some v' := (hoc2 v').mpr hv'
  subst this
  obtain ⟨g3, ρ', C', e1, e2, e3, e4, e5⟩ := hoc
  have FC : Fr c (c + 1462) g g3 := (F12.mono (by omega) (by omega)).trans (e4.mono (by omega) (by omega))
  have hc3 : CInv g3 c b hb len T P v := by
    obtain ⟨y1, ⟨σ, y2⟩, y3, y4, y5, y6⟩ := hc
    exact ⟨(y1.fr F12 (by omega)).fr e4 (by omega), ⟨σ, (y2.fr F12 (by omega)).fr e4 (by omega)⟩, (y3.fr F12 (by omega)).fr e4 (by omega), (y4.fr F12 (by omega)).fr e4 (by omega), (y5.fr F12 (by omega)).fr e4 (by omega), ρ', C', e2, e5.trans r2⟩
  obtain ⟨g4, s2, s3, s4, s5⟩ := h_record (n := n) (by omega) hC.hi hC.st hB (by omega) hc3.2.1.choose_spec hc3.1
  obtain ⟨g5, u1, u2, u3⟩ := s_copy (n := n) (by omega) hC.st hC.tr hB' (by omega) ((b2.fr e4 (by omega)).fr s5 (by omega))
  have e2' := (e2.fr s5 (by omega)).fr u3 (by omega)
  obtain ⟨g6, ρ6, C6, x1, x2, x3, x4⟩ := c_keep (n := n) hC.ev e2'
  have hc6 : CInv g6 c (setRow b t (tab + 1) vv 1 100 0) (rec4 hb b) len T P v' := by
    obtain ⟨y1, ⟨σ, y2⟩, y3, y4, y5, y6⟩ := hc3
    exact ⟨u2.fr x4 (by omega), ⟨s2, (s4.fr u3 (by omega)).fr x4 (by omega)⟩, ((y3.fr s5 (by omega)).fr u3 (by omega)).fr x4 (by omega), ((y4.fr s5 (by omega)).fr u3 (by omega)).fr x4 (by omega), (((y5.fr s5 (by omega)).fr u3 (by omega)).fr x4 (by omega)).cong hup hwd, ρ6, C6, x2, x3.trans e3⟩
  have FG : Fr c (c + 1462) g g6 := FC.trans ((s5.mono (by omega) (by omega)).trans ((u3.mono (by omega) (by omega)).trans (x4.mono (by omega) (by omega))))
  exact ⟨g6, by rw [e, e1, bnd_s, if_neg i10, s3, bnd_s, u1, bnd_s, x1, bnd_s], ⟨P, ⟨⟨hB', v', hv'⟩, hist_in p2 ⟨hB, hv0⟩, p3, hv', p5⟩, hc6⟩, FG⟩
/-! the text -/
/-- append, where there is room -/
theorem tx_append (hC : CZ Z c) {w : Nat} (hw1 : 32 ≤ w) (hw : w ≤ 126) {g : Mem} {hb : List (Nat → Nat)} {len : Nat} {T : Nat → Nat} (hl : len < 60) (hS : SI g c b hb len T v) : ∃ g' T', f_X10_append n Z c (nI w) g = some (nI (len + 1), g') ∧ SI g' c b hb (len + 1) T' v ∧ Fr c (c + 1462) g g' := by
  obtain ⟨P, hP, hc⟩ := hS
  obtain ⟨p1, p2, p3, p4, p5⟩ := id hP
  obtain ⟨g1, a1, a2, a3⟩ := l_add (n := n) (x := w) hC.tx (by omega) hc.2.2.1 hl (by omega)
  obtain ⟨c1, ⟨σ, c2⟩, c3, c4, c5, c6⟩ := hc
  have hT' : TOk (fun k => if k = len then w else T k) (len + 1) := ⟨by omega, fun k hk => by
    dsimp only
    by_cases z : k = len
    · rw [if_pos z]; omega
    · rw [if_neg z]; exact p3.2.1 k (by omega), fun k hk => by
    dsimp only
    rw [if_neg (by omega)]; exact p3.2.2 k (by omega)⟩
  have hc' : CInv g1 c b hb (len + 1) (fun k => if k = len then w else T k) P v := ⟨c1.fr a3 (by omega), ⟨σ, c2.fr a3 (by omega)⟩, a2, c4.fr a3 (by omega), c5.fr a3 (by omega), c6.fr a3 (by omega)⟩
  refine ⟨g1, _, ?_, ⟨P, ⟨p1, p2, hT', p4, p5⟩, hc'⟩, a3.mono (by omega) (by omega)⟩
  have q1 : ¬ nI w < (32 : Int32) := fun z => by have := (nlt (b := 32) (by omega) (by omega)).mp z; omega
  have q2 : nI w ≤ (126 : Int32) := (nle (b := 126) (by omega) (by omega)).mpr hw
  unfold f_X10_append
  rw [grd_t hC.k, if_neg q1, if_pos q2, hC.f3, drf_s, ch16 (by omega), a1, bnd_s, if_neg i10, drf_s, l_len hC.tx, bnd_s, a2.1]
theorem tx_clear (hC : CZ Z c) {g : Mem} {hb : List (Nat → Nat)} {len : Nat} {T : Nat → Nat} (hS : SI g c b hb len T v) : ∃ g', f_X10_clearText n Z c g = some (nI len, g') ∧ SI g' c b hb 0 (fun _ => 0) v ∧ Fr c (c + 1462) g g' := by
  obtain ⟨P, hP, hc⟩ := hS
  obtain ⟨p1, p2, p3, p4, p5⟩ := id hP
  obtain ⟨a2, a3⟩ := l_clear_is (a := c + 51) (g := g) (c := fun _ => 0)
  obtain ⟨c1, ⟨σ, c2⟩, c3, c4, c5, c6⟩ := hc
  have hc' : CInv (sI g (c + 51) 1 0) c b hb 0 (fun _ => 0) P v := ⟨c1.fr a3 (by omega), ⟨σ, c2.fr a3 (by omega)⟩, a2, c4.fr a3 (by omega), c5.fr a3 (by omega), c6.fr a3 (by omega)⟩
  refine ⟨_, ?_, ⟨P, ⟨p1, p2, t0_ok, p4, p5⟩, hc'⟩, a3.mono (by omega) (by omega)⟩
  unfold f_X10_clearText
  rw [grd_t hC.k, hC.f3, drf_s, l_len hC.tx, bnd_s, drf_s, l_clear hC.tx, bnd_s, c3.1]
/-- the text is a query -/
def isQ (T : Nat → Nat) (len : Nat) : Prop := ∃ pre S, prunT T = (len, some (pre, S))
/-- fault: none, or a place within the text -/
theorem tx_fault (hn : 500 ≤ n) (hC : CZ Z c) {g : Mem} {hb : List (Nat → Nat)} {len : Nat} {T : Nat → Nat} (hS : SI g c b hb len T v) : ∃ g' r, f_X10_fault n Z c g = some (r, g') ∧ SI g' c b hb len T v ∧ Fr c (c + 1462) g g' ∧ (isQ T len ∧ r = -6 ∨ ¬ isQ T len ∧ ∃ p, p ≤ len ∧ r = nI p) := by
  obtain ⟨P, hP, hc⟩ := hS
  obtain ⟨p1, p2, p3, p4, p5⟩ := id hP
  obtain ⟨g1, a1, a2, a3⟩ := c_read (n := n) (by omega) hC.dr hC.tx p3 (by omega) hc.2.2.1
  have hc' : CInv g1 c b hb len T P v := hc.sh a1 (by omega) (by omega)
  have hC2 : f_X10_fault n Z c g = bnd (f_X6_read n Z (c + 55) (c + 51) g) (fun r5 g6 => if r5 = 0 then (some (gI g6 (c + 55) 7, g6)) else (some ((-6 : Int32), g6))) := by
    unfold f_X10_fault f_X6_stoppedAt; rw [grd_t hC.k, hC.f5, drf_s, hC.f3, drf_s]; simp only [grd_t hC.dr.k, bnd_s, drf_s]
  have hle := prunT_le p3
  cases hr : (prunT T).2 with
  | none =>
    rw [hr] at a3
    refine ⟨g1, nI (prunT T).1, ?_, ⟨P, hP, hc'⟩, a1.mono (by omega) (by omega), Or.inr ⟨(fun ⟨pre, S, e⟩ => by rw [e] at hr; cases hr), _, hle, rfl⟩⟩
    rw [hC2, a3.1, bnd_s, if_pos rfl, a2]
  | some x =>
    rw [hr] at a3
    by_cases hl : (prunT T).1 = len
    · dsimp only at a3
      rw [if_pos hl] at a3
      refine ⟨g1, -6, ?_, ⟨P, hP, hc'⟩, a1.mono (by omega) (by omega), Or.inl ⟨⟨x.1, x.2, by rw [← hl, show (x.1, x.2) = x from rfl, ← hr]⟩, rfl⟩⟩
      rw [hC2, a3.2.1, bnd_s, if_neg i10]
    · dsimp only at a3
      rw [if_neg hl] at a3
      refine ⟨g1, nI (prunT T).1, ?_, ⟨P, hP, hc'⟩, a1.mono (by omega) (by omega), Or.inr ⟨(fun ⟨pre, S, e⟩ => hl (by rw [e])), _, hle, rfl⟩⟩
      rw [hC2, a3.2.1, bnd_s, if_pos rfl, a2]
/-- setQuery -/
theorem tx_setQuery (hn : 500 ≤ n) (hC : CZ Z c) {g : Mem} {hb : List (Nat → Nat)} {len : Nat} {T : Nat → Nat} (hS : SI g c b hb len T v) : ∃ g' r, f_X10_setQuery n Z c g = some (r, g') ∧ Fr c (c + 1462) g g' ∧ (¬ isQ T len ∧ r = -3 ∧ SI g' c b hb len T v ∨ isQ T len ∧ (r = -5 ∨ r = -4) ∧ SI g' c b hb len T v ∨ isQ T len ∧ ∃ v', r = nI v'.2.length ∧ SI g' c (setQ b len T) (rec4 hb b) len T v') := by
  obtain ⟨P, hP, hc⟩ := hS
  obtain ⟨⟨hB, hv0⟩, p2, p3, p4, p5⟩ := id hP
  obtain ⟨g1, a1, a2, a3⟩ := c_read (n := n) (by omega) hC.dr hC.tx p3 (by omega) hc.2.2.1
  have hc1 : CInv g1 c b hb len T P v := hc.sh a1 (by omega) (by omega)
  have FA : Fr c (c + 1462) g g1 := a1.mono (by omega) (by omega)
  have hC2 : f_X10_setQuery n Z c g = bnd (f_X6_read n Z (c + 55) (c + 51) g) (fun r5 g6 => if r5 = 0 then (some ((-3 : Int32), g6)) else (bnd (f_X6_fits n Z (c + 55) (c + 1) g6) (fun r13 g14 => if r13 = 0 then (some ((-5 : Int32), g14)) else (bnd (f_X0_compute n Z (c + 67) (c + 55) (c + 1) g14) (fun r23 g24 => if r23 = 0 then (some ((-4 : Int32), g24)) else (bnd (f_X1_record n Z (c + 17) (c + 1) g24) (fun r31 g32 => bnd (f_X3_copy n Z (c + 1 + 6) (c + 51) g32) (fun r43 g44 => bnd (f_X6_read n Z (c + 61) (c + 1 + 6) g44) (fun r55 g56 => bnd (f_X0_keepResult n Z (c + 67) g56) (fun r60 g61 => bnd (f_X10_answerRows n Z c g61) (fun r63 g64 => some (r63, g64)))))))))))) := by
    unfold f_X10_setQuery
    simp only [grd_t hC.k, hC.f0, hC.f2, hC.f3, hC.f5, hC.f6, hC.f7, drf_s, s_line hC.st, bnd_s]
  by_cases hq : isQ T len
  case neg =>
    have hc' : f_X6_read n Z (c + 55) (c + 51) g = some (0, g1) := by
      cases hr : (prunT T).2 with
      | none => rw [hr] at a3; exact a3.1
      | some x =>
        rw [hr] at a3
        dsimp only at a3
        by_cases hl : (prunT T).1 = len
        · exact absurd ⟨x.1, x.2, by rw [← hl, show (x.1, x.2) = x from rfl, ← hr]⟩ hq
        · rw [if_neg hl] at a3; exact a3.2.1
    exact ⟨g1, -3, by rw [hC2, hc', bnd_s, if_pos rfl], FA, Or.inl ⟨hq, rfl, P, hP, hc1⟩⟩
  obtain ⟨pre, S, hp⟩ := id hq
  obtain ⟨k1, k2, k3, k4, k5⟩ := prunT_ok p3 hp
  have hl60 := p3.1
  rw [hp] at a2 a3
  dsimp only at a3
  rw [if_pos rfl] at a3
  obtain ⟨a31, a32, a33⟩ := a3
  obtain ⟨g2, e1, e2⟩ := c_fits (n := n) (by omega) hB hC.dr hC.st k3 k1 (by omega) (by omega) a31 hc1.1
  have F2 : Fr c (c + 1462) g g2 := FA.trans (e2.mono (by omega) (by omega))
  have hc2 : CInv g2 c b hb len T P v := by
    obtain ⟨c1, ⟨σ, c2⟩, c3, c4, c5, c6⟩ := hc1
    exact ⟨c1.fr e2 (by omega), ⟨σ, c2.fr e2 (by omega)⟩, c3.fr e2 (by omega), c4.fr e2 (by omega), c5.fr e2 (by omega), c6.fr e2 (by omega)⟩
  by_cases hfit : (qw b pre).isSome = true
  case neg =>
    exact ⟨g2, -5, by rw [hC2, a32, bnd_s, if_neg i10, e1, bnd_s, if_neg hfit, if_pos rfl], F2, Or.inr (Or.inl ⟨hq, Or.inl rfl, P, hP, hc2⟩)⟩
  obtain ⟨w, hw⟩ := Option.isSome_iff_exists.mp hfit
  obtain ⟨ρ, C, r1, r2⟩ := hc2.2.2.2.2.2
  have hQ2 : QIs g2 (c + 55) pre := a31.ch e2.ch ⟨by omega, fun b j hb => by omega⟩
  have hQ9 : gI g2 (c + 55) 9 = 1 := (e2.i (by omega) _).trans a33
  have hV := c_compute (n := n) (by omega) hC.ev hC.dr hC.st hB (by omega) (by omega) k3 k1 (by omega) hw hQ2 hQ9 hc2.1 r1
  have hC3 : f_X10_setQuery n Z c g = bnd (f_X0_compute n Z (c + 67) (c + 55) (c + 1) g2) (fun r23 g24 => if r23 = 0 then (some ((-4 : Int32), g24)) else (bnd (f_X1_record n Z (c + 17) (c + 1) g24) (fun r31 g32 => bnd (f_X3_copy n Z (c + 1 + 6) (c + 51) g32) (fun r43 g44 => bnd (f_X6_read n Z (c + 61) (c + 1 + 6) g44) (fun r55 g56 => bnd (f_X0_keepResult n Z (c + 67) g56) (fun r60 g61 => bnd (f_X10_answerRows n Z c g61) (fun r63 g64 => some (r63, g64)))))))) := by
    rw [hC2, a32, bnd_s, if_neg i10, e1, bnd_s, if_pos hfit, if_neg i10]
  cases hv : qv b pre with
  | none =>
    rw [hv] at hV
    obtain ⟨g3, ρ', C', v1, v2, v3, v4⟩ := hV
    have F3 : Fr c (c + 1462) g g3 := F2.trans (v3.mono (by omega) (by omega))
    have hc3 : CInv g3 c b hb len T P v := by
      obtain ⟨y1, ⟨σ, y2⟩, y3, y4, y5, y6⟩ := hc2
      exact ⟨y1.fr v3 (by omega), ⟨σ, y2.fr v3 (by omega)⟩, y3.fr v3 (by omega), y4.fr v3 (by omega), y5.fr v3 (by omega), ρ', C', v2, v4.trans r2⟩
    exact ⟨g3, -4, by rw [hC3, v1, bnd_s, if_pos rfl], F3, Or.inr (Or.inl ⟨hq, Or.inr rfl, P, hP, hc3⟩)⟩
  | some v' =>
    rw [hv] at hV
    obtain ⟨g3, ρ', C', v1, v2, v3, v4, v5⟩ := hV
    have hA' := ans_setQ hB p3 hp hw hv
    have hB' := hB.setQ p3
    have F3 : Fr c (c + 1462) g g3 := F2.trans (v4.mono (by omega) (by omega))
    have hc3 : CInv g3 c b hb len T P v := by
      obtain ⟨y1, ⟨σ, y2⟩, y3, y4, y5, y6⟩ := hc2
      exact ⟨y1.fr v4 (by omega), ⟨σ, y2.fr v4 (by omega)⟩, y3.fr v4 (by omega), y4.fr v4 (by omega), y5.fr v4 (by omega), ρ', C', v2, v5.trans r2⟩
    obtain ⟨y1, ⟨σ, y2⟩, y3, y4, y5, y6⟩ := hc3
    obtain ⟨g4, σ', s1, s2, s3⟩ := h_record (n := n) (by omega) hC.hi hC.st hB (by omega) y2 y1
    obtain ⟨g5, t1, t2, t3⟩ := l_copy (n := n) (g := g4) (len := len) (c := T) (by omega) hC.st.2 hC.tx (by omega) (by omega) hl60 hl60 (by omega) (fun k hk => by have := p3.2.1 k hk; omega) (y3.fr s3 (by omega))
    have hS5 := st_setQ (y1.fr s3 (by omega)) (t3.mono (by omega) (by omega)) t2
    obtain ⟨r6, g6, u1, u2, u3⟩ := c_reread (n := n) (by omega) hC ⟨hB', v', hA'⟩ hS5
    have hE6 := ((v2.fr s3 (by omega)).fr t3 (by omega)).fr u3 (by omega)
    obtain ⟨g7, ρ7, C7, x1, x2, x3, x4⟩ := c_keep (n := n) hC.ev hE6
    have hEA : EA g7 (c + 67) v' := ⟨ρ7, C7, x2, x3.trans v3⟩
    have hc7 : CInv g7 c (setQ b len T) (rec4 hb b) len T P v' := ⟨(hS5.fr u3 (by omega)).fr x4 (by omega), ⟨σ', ((s2.fr t3 (by omega)).fr u3 (by omega)).fr x4 (by omega)⟩, (((y3.fr s3 (by omega)).fr t3 (by omega)).fr u3 (by omega)).fr x4 (by omega), (((y4.fr s3 (by omega)).fr t3 (by omega)).fr u3 (by omega)).fr x4 (by omega), u2.fr x4 (by omega), hEA⟩
    have F7 : Fr c (c + 1462) g g7 := F3.trans ((s3.mono (by omega) (by omega)).trans ((t3.mono (by omega) (by omega)).trans ((u3.mono (by omega) (by omega)).trans (x4.mono (by omega) (by omega)))))
    refine ⟨g7, nI v'.2.length, ?_, F7, Or.inr (Or.inr ⟨hq, v', rfl, P, ⟨⟨hB', v', hA'⟩, hist_in p2 ⟨hB, hv0⟩, p3, hA', p5⟩, hc7⟩)⟩
    rw [hC3, v1, bnd_s, if_neg i10, s1, bnd_s, t1, bnd_s, u1, bnd_s, x1, bnd_s, c_rows hC hEA, bnd_s]
theorem ac_dropQuery (hn : 500 ≤ n) (hC : CZ Z c) (q0 : b 84 ≠ 0) : Ac c b v (setQ b 0 fun _ => 0) dV (f_X10_dropQuery n Z c) (nI v.2.length) := fun g hb len T hS => by
  obtain ⟨P, hP, hc⟩ := hS
  obtain ⟨⟨hB, hv0⟩, p2, p3, p4, p5⟩ := id hP
  have h60 := hB.2.2.1
  have hC2 : f_X10_dropQuery n Z c g = if nI (b 84) = 0 then (some ((-5 : Int32), g)) else (bnd (f_X10_answerRows n Z c g) (fun r12 g13 => bnd (f_X1_record n Z (c + 17) (c + 1) g13) (fun r19 g20 => bnd (f_X3_clear n Z (c + 1 + 6) g20) (fun r29 g30 => bnd (f_X6_read n Z (c + 61) (c + 1 + 6) g30) (fun r41 g42 => bnd (f_X10_refreshAnswer n Z c g42) (fun r44 g45 => some (r12, g45))))))) := by
    unfold f_X10_dropQuery
    simp only [grd_t hC.k, hC.f0, hC.f2, hC.f6, drf_s, s_line hC.st, bnd_s, l_len hC.st.2, hc.1.2.2.2.2.1]
  have hne : ¬ nI (b 84) = (0 : Int32) := neI (b := 0) (by omega) (by omega) q0
  have hB' := hB.setQ t0_ok
  have hS' : SOk (setQ b 0 fun _ => 0) := ⟨hB', dV, ans_0⟩
  obtain ⟨g1, a1, a2, a3⟩ := c_record (n := n) (by omega) hC hB hc
  obtain ⟨y1, ⟨σ, y2⟩, y3, y4, y5, y6⟩ := a2
  obtain ⟨k1, k2⟩ := l_clear_is (a := c + 1 + 6) (g := g1) (c := fun _ => 0)
  have hS2 := st_setQ y1 (k2.mono (by omega) (by omega)) k1
  obtain ⟨r3, g3, u1, u2, u3⟩ := c_reread (n := n) (by omega) hC hS' hS2
  have hS3 := hS2.fr u3 (by omega)
  obtain ⟨g4, d1, d2, d3⟩ := c_refresh (n := n) (by omega) hC hB' ans_0 hS3 u2 ((y6.fr k2 (by omega)).fr u3 (by omega))
  have hc4 : CInv g4 c (setQ b 0 fun _ => 0) (rec4 hb b) len T P dV := ⟨hS3.fr d3 (by omega), ⟨σ, ((y2.fr k2 (by omega)).fr u3 (by omega)).fr d3 (by omega)⟩, ((y3.fr k2 (by omega)).fr u3 (by omega)).fr d3 (by omega), ((y4.fr k2 (by omega)).fr u3 (by omega)).fr d3 (by omega), u2.fr d3 (by omega), d2⟩
  have F4 : Fr c (c + 1462) g g4 := a3.trans ((k2.mono (by omega) (by omega)).trans ((u3.mono (by omega) (by omega)).trans (d3.mono (by omega) (by omega))))
  refine ⟨g4, ?_, ⟨P, ⟨hS', hist_in p2 ⟨hB, hv0⟩, p3, ans_0, p5⟩, hc4⟩, F4⟩
  rw [hC2, if_neg hne, c_rows hC hc.2.2.2.2.2, bnd_s, a1, bnd_s, l_clear hC.st.2, bnd_s, u1, bnd_s, d1, bnd_s]
theorem rd_dropQueryN (hC : CZ Z c) (q0 : b 84 = 0) : Rd c b v (f_X10_dropQuery n Z c) (-5) := rd_same fun g hb len T P p hc => by
  unfold f_X10_dropQuery
  simp only [grd_t hC.k, hC.f0, hC.f2, hC.f6, drf_s, s_line hC.st, bnd_s, l_len hC.st.2, hc.1.2.2.2.2.1]
  rw [q0, if_pos (show nI 0 = (0 : Int32) from rfl)]
/-- undo: none -/
theorem un_none (hC : CZ Z c) {g : Mem} {len : Nat} {T : Nat → Nat} (hS : SI g c b [] len T v) : f_X10_undo n Z c g = some (-6, g) := by
  obtain ⟨P, hP, hc⟩ := hS
  obtain ⟨y1, ⟨σ, y2⟩, y3, y4, y5, y6⟩ := id hc
  unfold f_X10_undo; rw [grd_t hC.k, hC.f2, drf_s, h_none hC.hi y2 rfl, bnd_s, if_pos rfl]
/-- undo: the latest state comes back -/
theorem un_some (hn : 500 ≤ n) (hC : CZ Z c) {g : Mem} {hb : List (Nat → Nat)} {len : Nat} {T : Nat → Nat} (hS : SI g c b hb len T v) (q0 : 0 < hb.length) : ∃ g' v', f_X10_undo n Z c g = some (nI (hb.length - 1), g') ∧ SI g' c (hb.getD (hb.length - 1) b0) (hb.take (hb.length - 1)) len T v' ∧ Fr c (c + 1462) g g' := by
  obtain ⟨P, hP, hc⟩ := hS
  obtain ⟨p1, p2, p3, p4, p5⟩ := id hP
  obtain ⟨y1, ⟨σ, y2⟩, y3, y4, y5, y6⟩ := id hc
  have hl4 := y2.2.1
  obtain ⟨a1, a2, a3, a4⟩ := h_take (n := n) hC.hi y2 (by omega)
  obtain ⟨b', hb'⟩ : ∃ b', b' = hb.getD (hb.length - 1) b0 := ⟨_, rfl⟩
  rw [← hb'] at a3 ⊢
  have hmem : b' ∈ hb := by rw [hb']; exact getD_mem (by omega)
  have hS' := p2 b' hmem
  obtain ⟨v', hv'⟩ := hS'.2
  have hσ := (y2.2.2.1 (hb.length - 1) (by omega)).2
  obtain ⟨g1, e1⟩ : ∃ g1, g1 = sI g (c + 17) 1 (nI (hb.length - 1)) := ⟨_, rfl⟩
  rw [← e1] at a1 a2 a3 a4
  obtain ⟨g2, s1, s2, s3⟩ := s_copy (n := n) (by omega) hC.st (hC.hi.2 _ hσ) hS'.1 (by omega) a3
  obtain ⟨r3, g3, u1, u2, u3⟩ := c_reread (n := n) (by omega) hC hS' s2
  have hS3 := s2.fr u3 (by omega)
  obtain ⟨g4, d1, d2, d3⟩ := c_refresh (n := n) (by omega) hC hS'.1 hv' hS3 u2 (((y6.fr a4 (by omega)).fr s3 (by omega)).fr u3 (by omega))
  have hH4 := ((a2.fr s3 (by omega)).fr u3 (by omega)).fr d3 (by omega)
  have hc4 : CInv g4 c b' (hb.take (hb.length - 1)) len T P v' := ⟨hS3.fr d3 (by omega), ⟨σ, hH4⟩, (((y3.fr a4 (by omega)).fr s3 (by omega)).fr u3 (by omega)).fr d3 (by omega), (((y4.fr a4 (by omega)).fr s3 (by omega)).fr u3 (by omega)).fr d3 (by omega), u2.fr d3 (by omega), d2⟩
  have F4 : Fr c (c + 1462) g g4 := (a4.mono (by omega) (by omega)).trans ((s3.mono (by omega) (by omega)).trans ((u3.mono (by omega) (by omega)).trans (d3.mono (by omega) (by omega))))
  have htl : (hb.take (hb.length - 1)).length = hb.length - 1 := by rw [List.length_take]; omega
  refine ⟨g4, v', ?_, ⟨P, ⟨hS', fun x hx => p2 x (List.mem_of_mem_take hx), p3, hv', p5⟩, hc4⟩, F4⟩
  unfold f_X10_undo
  simp only [grd_t hC.k, hC.f0, hC.f2, hC.f6, drf_s, a1, bnd_s, if_neg (show ¬ (some (c + 17 + 2 + 8 * σ (hb.length - 1)) : Option Nat) = none by simp), s1, s_line hC.st, u1, d1, h_size hC.hi hH4, htl]
end ACT

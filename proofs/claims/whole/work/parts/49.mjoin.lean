theorem obind_app {o : Option Rws} {L M : Rws} : (o.bind fun rows => rAddL rows (L ++ M)) = (o.bind fun rows => rAddL rows L).bind fun rows => rAddL rows M := by
  cases o with
  | none => rfl
  | some rows => exact rAddL_app rows L M
/-! joins -/
theorem join_l63 {n : Nat} {Z : Zt} {m σ wa wb i ca cb r : Nat} {A B : Rws} {κ : Int32 → Int32 → Int32 → Int32 → Mem → Option (Unit × Mem)} (hn : 40 ≤ n) (hZ : MZ Z m) (hσ : σ < 12) (hi : i < 60) (hw : wa + wb ≤ 4) (hca : ca < wa) (hcb : cb < wb) (hkA : KB (10 ^ wa) A) (hkB : KB (10 ^ wb) B) (hr : r < A.length) : ∀ (d k fu : Nat) (g : Mem) (o : Option Rws), d = B.length - k → k ≤ B.length → d < fu → MS g m (σ + 2) (wa + wb) o → gI g m 24 = nI (σ + 2) → MR g m σ wa A → MR g m (σ + 1) wb B → StepAt g m i (4, ca, cb) →
    ∃ g', f_X11_joins_l63 n Z κ m fu (nI i) (nI σ) (nI (σ + 1)) (nI r) (nI k) g = κ (nI i) (nI σ) (nI (σ + 1)) (nI r + 1) g' ∧ MS g' m (σ + 2) (wa + wb) (o.bind fun rows => rAddL rows (joinL1 wa wb ca cb (A.getD r (0, [])) (B.drop k))) ∧ Ch (pQ m (σ + 2)) g g' := by
  obtain ⟨x, hx⟩ : ∃ x, x = A.getD r (0, []) := ⟨_, rfl⟩
  intro d
  induction d with
  | zero =>
    intro k fu g o hd hk hfu hR h24 hA hB hT
    obtain ⟨fu, rfl⟩ : ∃ q, fu = q + 1 := ⟨fu - 1, by omega⟩
    have hke : k = B.length := by omega
    subst hke
    have h1 := hB.2.1
    have h2 := hB.2.2.1
    refine ⟨g, ?_, ?_, Ch.rfl⟩
    · rw [f_X11_joins_l63]
      simp (disch := omega) only [hZ.f19, drf_s, hZ.k19, hZ.l19, grd_t, grd_true, inr_eq, clamp, h1, nle, if_pos]
    · rw [List.drop_length]
      show MS _ _ _ _ (o.bind fun rows => rAddL rows [])
      rw [obind_nil]; exact hR
  | succ d ih =>
    intro k fu g o hd hk hfu hR h24 hA hB hT
    obtain ⟨fu, rfl⟩ : ∃ q, fu = q + 1 := ⟨fu - 1, by omega⟩
    have h1 := hB.2.1
    have h2 := hB.2.2.1
    have h2a := hA.2.2.1
    cases o with
    | none =>
      have h25 : gI g m 25 = 1 := hR.1
      refine ⟨g, ?_, hR, Ch.rfl⟩
      rw [f_X11_joins_l63]
      simp (disch := omega) only [hZ.f19, drf_s, hZ.k19, hZ.l19, grd_t, grd_true, inr_eq, clamp, h1, nle, if_neg, h25]
      exact if_neg i10
    | some rows =>
      have h0 : gI g m 25 = 0 := hR.2
      obtain ⟨r1, r2, r3⟩ := hB.row (k := k) (by omega)
      obtain ⟨s1, s2, s3⟩ := hA.row (k := r) (by omega)
      obtain ⟨t1, t2, t3⟩ := id hT
      have t2 : gI g (m + 6) i = nI ca := t2
      have t3 : gI g (m + 7) i = nI cb := t3
      have hwa := hA.1
      have hwb := hB.1
      have e1 : ((32 : Int32) * nI σ) + nI r = nI (32 * σ + r) := by rw [← nI_add, ← mIJ]; rfl
      have e2 : ((32 : Int32) * nI (σ + 1)) + nI k = nI (32 * (σ + 1) + k) := by rw [← nI_add (32 * (σ + 1)) k, ← mIJ 32 (σ + 1)]; rfl
      obtain ⟨y, hy⟩ : ∃ y, y = B.getD k (0, []) := ⟨_, rfl⟩
      rw [← hx] at s1 s2 s3
      rw [← hy] at r1 r2 r3
      have hxb : x.1 < 10 ^ wa := hx ▸ hkA.kok r hr
      have hyb : y.1 < 10 ^ wb := hy ▸ hkB.kok k (by omega)
      have hxy := key_comb hxb hyb
      have hxy4 : x.1 * 10 ^ wb + y.1 < 10000 := Nat.lt_of_lt_of_le hxy (Nat.pow_le_pow_right (n := 10) (by omega) hw)
      have hdl : dg wa x.1 ca < 10 := dg_lt _ _ _
      have hdr : dg wb y.1 cb < 10 := dg_lt _ _ _
      have e0 : f_X11_joins_l63 n Z κ m (fu + 1) (nI i) (nI σ) (nI (σ + 1)) (nI r) (nI k) g = if nI (dg wa x.1 ca) = nI (dg wb y.1 cb) then (bnd (f_X11_multiplies n Z m (nI (32 * σ + r)) (nI (32 * (σ + 1) + k)) (nI (x.1 * 10 ^ wb + y.1)) g) fun _ g78 => f_X11_joins_l63 n Z κ m fu (nI i) (nI σ) (nI (σ + 1)) (nI r) (nI (k + 1)) g78) else f_X11_joins_l63 n Z κ m fu (nI i) (nI σ) (nI (σ + 1)) (nI r) (nI (k + 1)) g := by
        rw [f_X11_joins_l63]
        simp (disch := omega) only [hZ.f19, hZ.f20, hZ.f18, hZ.f10, hZ.f11, drf_s, hZ.k19, hZ.l19, hZ.k20, hZ.l20, hZ.k18, hZ.l18, hZ.k10, hZ.l10, hZ.k11, hZ.l11, grd_t, grd_true, e1, e2, inr_eq, clamp, h1, nle, if_neg, if_pos h0, r1, s1, t2, t3, hwa, hwb]
        rw [m_digit hn s2 (show wa ≤ 4 by omega) hca, bnd_s]
        simp (disch := omega) only [hZ.f20, hZ.f18, hZ.f11, drf_s, hZ.k20, hZ.l20, hZ.k18, hZ.l18, hZ.k11, hZ.l11, grd_t, grd_true, inr_eq, clamp, r1, t3, hwb]
        rw [m_digit hn r2 (show wb ≤ 4 by omega) hcb, bnd_s]
        simp (disch := omega) only [hZ.f20, hZ.f18, drf_s, hZ.k20, hZ.l20, hZ.k18, hZ.l18, grd_t, grd_true, inr_eq, clamp, s1, hwb]
        rw [m_power hn (show wb < 10 by omega), bnd_s]
        simp (disch := omega) only [hZ.f20, drf_s, hZ.k20, hZ.l20, grd_t, grd_true, inr_eq, clamp, r1, mIJ, nI_add, nI_1]
      rw [e0, drop_one _ _ (0, []) (show k < B.length by omega), ← hx, ← hy]
      have hcons : joinL1 wa wb ca cb x (y :: B.drop (k + 1)) = if dg wb y.1 cb = dg wa x.1 ca then (x.1 * 10 ^ wb + y.1, pMulT x.2 y.2) :: joinL1 wa wb ca cb x (B.drop (k + 1)) else joinL1 wa wb ca cb x (B.drop (k + 1)) := by
        unfold joinL1
        rw [filter_cons]
        by_cases hc : dg wb y.1 cb = dg wa x.1 ca
        · rw [if_pos (decide_eq_true hc), if_pos hc]; rfl
        · rw [if_neg (fun q => hc (of_decide_eq_true q)), if_neg hc]
      rw [hcons]
      rw [← hx] at ih
      by_cases hc : dg wa x.1 ca = dg wb y.1 cb
      · rw [if_pos (by rw [hc]), if_pos hc.symm, obind_cons]
        obtain ⟨g1, a1, a2, a3⟩ := mults (n := n) (K := x.1 * 10 ^ wb + y.1) (o := some rows) hn hZ (show σ + 2 < 14 by omega) (show 32 * σ + r < 448 by omega) (show 32 * (σ + 1) + k < 448 by omega) (by omega) (by omega) hR (by omega) h24 s3 r3
        rw [a1, bnd_s]
        obtain ⟨g2, c1, c2, c3⟩ := ih (k + 1) fu g1 _ (by omega) (by omega) (by omega) a2 ((a3.i (by unfold pQ; omega)).trans h24) (hA.ch a3 fun b j q1 q2 => by unfold pQ at q1 ⊢; omega) (hB.ch a3 fun b j q1 q2 => by unfold pQ at q1 ⊢; omega) (hT.ch a3 fun b q => by unfold pQ; omega)
        exact ⟨g2, c1, c2, a3.trans c3⟩
      · rw [if_neg (fun q => hc ((neq (by omega) (by omega)).mp q)), if_neg (fun q => hc q.symm)]
        exact ih (k + 1) fu g (some rows) (by omega) (by omega) (by omega) hR h24 hA hB hT
theorem join_l49 {n : Nat} {Z : Zt} {m σ wa wb i ca cb : Nat} {A B : Rws} (hn : 40 ≤ n) (hZ : MZ Z m) (hσ : σ < 12) (hi : i < 60) (hw : wa + wb ≤ 4) (hca : ca < wa) (hcb : cb < wb) (hkA : KB (10 ^ wa) A) (hkB : KB (10 ^ wb) B) : ∀ (d k fu : Nat) (g : Mem) (o : Option Rws), d = A.length - k → k ≤ A.length → d < fu → MS g m (σ + 2) (wa + wb) o → gI g m 24 = nI (σ + 2) → MR g m σ wa A → MR g m (σ + 1) wb B → StepAt g m i (4, ca, cb) →
    MDone (f_X11_joins_l49 n Z m fu (nI i) (nI σ) (nI (σ + 1)) (nI k) g) g m σ (wa + wb) (o.bind fun rows => rAddL rows (joinL wa wb ca cb (A.drop k) B)) := by
  intro d
  induction d with
  | zero =>
    intro k fu g o hd hk hfu hR h24 hA hB hT
    obtain ⟨fu, rfl⟩ : ∃ q, fu = q + 1 := ⟨fu - 1, by omega⟩
    have hke : k = A.length := by omega
    subst hke
    rw [List.drop_length]
    show MDone _ _ _ _ _ (o.bind fun rows => rAddL rows [])
    rw [obind_nil]
    have h1 := hA.2.1
    have h2 := hA.2.2.1
    refine (done_of (n := n) (had := 2) hn hZ (by omega) (by omega) rfl hR h24).cong ?_
    rw [f_X11_joins_l49]
    simp (disch := omega) only [hZ.f19, drf_s, hZ.k19, hZ.l19, grd_t, grd_true, inr_eq, clamp, h1, nle, if_pos]
    rfl
  | succ d ih =>
    intro k fu g o hd hk hfu hR h24 hA hB hT
    obtain ⟨fu, rfl⟩ : ∃ q, fu = q + 1 := ⟨fu - 1, by omega⟩
    have h1 := hA.2.1
    have h2 := hA.2.2.1
    obtain ⟨g1, a1, a2, a3⟩ := join_l63 (n := n) (κ := fun y0 y1 y2 y3 y => f_X11_joins_l49 n Z m fu y0 y1 y2 y3 y) (r := k) hn hZ hσ hi hw hca hcb hkA hkB (by omega) (B.length - 0) 0 n g o rfl (Nat.zero_le _) (by have := hB.2.2.1; omega) hR h24 hA hB hT
    rw [List.drop_zero] at a2
    have e0 : f_X11_joins_l49 n Z m (fu + 1) (nI i) (nI σ) (nI (σ + 1)) (nI k) g = f_X11_joins_l49 n Z m fu (nI i) (nI σ) (nI (σ + 1)) (nI (k + 1)) g1 := by
      rw [f_X11_joins_l49]
      simp (disch := omega) only [hZ.f19, drf_s, hZ.k19, hZ.l19, grd_t, grd_true, inr_eq, clamp, h1, nle, if_neg]
      refine Eq.trans a1 ?_
      simp only [nI_1]
    rw [e0, drop_one _ _ (0, []) (show k < A.length by omega)]
    show MDone _ _ _ _ _ (o.bind fun rows => rAddL rows (joinL1 wa wb ca cb (A.getD k (0, [])) B ++ joinL wa wb ca cb (A.drop (k + 1)) B))
    rw [obind_app]
    exact (ih (k + 1) fu g1 _ (by omega) (by omega) (by omega) a2 ((a3.i (by unfold pQ; omega)).trans h24) (hA.ch a3 fun b j q1 q2 => by unfold pQ at q1 ⊢; omega) (hB.ch a3 fun b j q1 q2 => by unfold pQ at q1 ⊢; omega) (hT.ch a3 fun b q => by unfold pQ; omega)).pre (a3.mono fun b j q => pQ_W (by omega) q)
theorem joins_ {n : Nat} {Z : Zt} {m σ wa wb i ca cb : Nat} {A B : Rws} {g : Mem} (hn : 40 ≤ n) (hZ : MZ Z m) (hσ : σ < 12) (hi : i < 60) (hw : wa + wb ≤ 4) (hca : ca < wa) (hcb : cb < wb) (hkA : KB (10 ^ wa) A) (hkB : KB (10 ^ wb) B) (h0 : gI g m 25 = 0) (h24 : gI g m 24 = nI (σ + 2)) (hA : MR g m σ wa A) (hB : MR g m (σ + 1) wb B) (hT : StepAt g m i (4, ca, cb)) :
    MDone (f_X11_joins n Z m (nI i) g) g m σ (wa + wb) (rAddL [] (joinL wa wb ca cb A B)) := by
  obtain ⟨l1, l2⟩ := lays0 (m := m) (ρ := σ + 2) (w := wa + wb) h0
  have hwa := hA.1
  have hwb := hB.1
  have e1 : nI (σ + 2) - (1 : Int32) = nI (σ + 1) := subN (a := σ + 2) (b := 1) (by omega)
  have e2 : nI (σ + 2) - (2 : Int32) = nI σ := subN (a := σ + 2) (b := 2) (by omega)
  have h24' : gI (sI g (m + 12) (σ + 2) (nI (wa + wb))) m 24 = nI (σ + 2) := by simp (disch := omega) only [gI_sI, if_neg, h24]
  have := join_l49 (n := n) hn hZ hσ hi hw hca hcb hkA hkB (A.length - 0) 0 n _ _ rfl (Nat.zero_le _) (by have := hA.2.2.1; omega) l1 ((l2.i (by omega)).trans h24) (hA.ch l2 fun b j q1 q2 => by unfold pQ at q1; omega) (hB.ch l2 fun b j q1 q2 => by unfold pQ at q1; omega) (hT.ch l2 fun b q => by omega)
  rw [List.drop_zero] at this
  refine (this.pre (l2.mono fun b j q => by unfold pW; omega)).cong ?_
  unfold f_X11_joins
  simp (disch := omega) only [hZ.k, hZ.f18, hZ.k18, hZ.l18, hZ.f19, hZ.k19, hZ.l19, drf_s, grd_t, grd_true, h24, e1, e2, inr_eq, clamp, hwa, hwb, nI_add, h24']
  rfl
/-! unites -/
theorem uni_l47 {n : Nat} {Z : Zt} {m ρ σ w v : Nat} {S : Rws} {κ : Int32 → Mem → Option (Unit × Mem)} (hn : 40 ≤ n) (hZ : MZ Z m) (hρ : ρ < 14) (hσ : σ < ρ) : ∀ (d k fu : Nat) (g : Mem) (o : Option Rws), d = S.length - k → k ≤ S.length → d < fu → MS g m ρ w o → gI g m 24 = nI ρ → MR g m σ v S →
    ∃ g', f_X11_unites_l47 n Z κ m fu (nI σ) (nI k) g = κ (nI σ + 1) g' ∧ MS g' m ρ w (o.bind fun rows => rAddL rows (S.drop k)) ∧ Ch (pQ m ρ) g g' := by
  intro d
  induction d with
  | zero =>
    intro k fu g o hd hk hfu hR h24 hS
    obtain ⟨fu, rfl⟩ : ∃ q, fu = q + 1 := ⟨fu - 1, by omega⟩
    have hke : k = S.length := by omega
    subst hke
    have h1 := hS.2.1
    have h2 := hS.2.2.1
    refine ⟨g, ?_, ?_, Ch.rfl⟩
    · rw [f_X11_unites_l47]
      simp (disch := omega) only [hZ.f19, drf_s, hZ.k19, hZ.l19, grd_t, grd_true, inr_eq, clamp, h1, nle, if_pos]
    · rw [List.drop_length, obind_nil]; exact hR
  | succ d ih =>
    intro k fu g o hd hk hfu hR h24 hS
    obtain ⟨fu, rfl⟩ : ∃ q, fu = q + 1 := ⟨fu - 1, by omega⟩
    have h1 := hS.2.1
    have h2 := hS.2.2.1
    cases o with
    | none =>
      have h25 : gI g m 25 = 1 := hR.1
      refine ⟨g, ?_, hR, Ch.rfl⟩
      rw [f_X11_unites_l47]
      simp (disch := omega) only [hZ.f19, drf_s, hZ.k19, hZ.l19, grd_t, grd_true, inr_eq, clamp, h1, nle, if_neg, h25]
      exact if_neg i10
    | some rows =>
      have h0 : gI g m 25 = 0 := hR.2
      obtain ⟨r1, r2, r3⟩ := hS.row (k := k) (by omega)
      have e1 : ((32 : Int32) * nI σ) + nI k = nI (32 * σ + k) := by rw [← nI_add, ← mIJ]; rfl
      obtain ⟨g1, a1, a2, a3⟩ := adds_row (n := n) (K := (S.getD k (0, [])).1) hn hZ hρ (show σ < 14 by omega) (by omega) (show k < 32 by omega) hR r2 r3
      have e0 : f_X11_unites_l47 n Z κ m (fu + 1) (nI σ) (nI k) g = f_X11_unites_l47 n Z κ m fu (nI σ) (nI (k + 1)) g1 := by
        rw [f_X11_unites_l47]
        simp (disch := omega) only [hZ.f19, hZ.f20, drf_s, hZ.k19, hZ.l19, hZ.k20, hZ.l20, grd_t, grd_true, e1, inr_eq, clamp, h1, nle, if_neg, if_pos h0, r1, h24, a1, bnd_s, nI_1]
      rw [e0, drop_one _ _ (0, []) (show k < S.length by omega), obind_cons]
      obtain ⟨g2, c1, c2, c3⟩ := ih (k + 1) fu g1 _ (by omega) (by omega) (by omega) a2 ((a3.i (by unfold pQ; omega)).trans h24) (hS.ch a3 fun b j q1 q2 => by unfold pQ at q1 ⊢; omega)
      exact ⟨g2, c1, c2, a3.trans c3⟩
theorem unites_ {n : Nat} {Z : Zt} {m σ v w : Nat} {A B : Rws} {g : Mem} (hn : 40 ≤ n) (hZ : MZ Z m) (hσ : σ < 12) (h0 : gI g m 25 = 0) (h24 : gI g m 24 = nI (σ + 2)) (hA : MR g m σ v A) (hB : MR g m (σ + 1) w B) :
    MDone (f_X11_unites n Z m g) g m σ v (rAddL [] (A ++ B)) := by
  obtain ⟨l1, l2⟩ := lays0 (m := m) (ρ := σ + 2) (w := v) h0
  have hwa := hA.1
  have e2 : nI (σ + 2) - (2 : Int32) = nI σ := subN (a := σ + 2) (b := 2) (by omega)
  have h24' : gI (sI g (m + 12) (σ + 2) (nI v)) m 24 = nI (σ + 2) := by simp (disch := omega) only [gI_sI, if_neg, h24]
  obtain ⟨g0, hg0⟩ : ∃ g0, g0 = sI (sI g (m + 12) (σ + 2) (nI v)) (m + 13) (σ + 2) (0 : Int32) := ⟨_, rfl⟩
  rw [← hg0] at l1 l2
  have h24'' : gI g0 m 24 = nI (σ + 2) := (l2.i (by omega)).trans h24
  obtain ⟨n', hn'⟩ : ∃ q, n = q + 3 := ⟨n - 3, by omega⟩
  obtain ⟨g1, a1, a2, a3⟩ := uni_l47 (n := n) (κ := fun y0 y => f_X11_unites_l37 n Z m (n' + 2) y0 y) hn hZ (show σ + 2 < 14 by omega) (show σ < σ + 2 by omega) (A.length - 0) 0 n g0 _ rfl (Nat.zero_le _) (by have := hA.2.2.1; omega) l1 h24'' (hA.ch l2 fun b j q1 q2 => by unfold pQ at q1; omega)
  have h24a : gI g1 m 24 = nI (σ + 2) := (a3.i (by unfold pQ; omega)).trans h24''
  obtain ⟨g2, b1, b2, b3⟩ := uni_l47 (n := n) (κ := fun y0 y => f_X11_unites_l37 n Z m (n' + 1) y0 y) hn hZ (show σ + 2 < 14 by omega) (show σ + 1 < σ + 2 by omega) (B.length - 0) 0 n g1 _ rfl (Nat.zero_le _) (by have := hB.2.2.1; omega) a2 h24a (hB.ch (l2.mono (Q := fun b j => b = m + 12 ∧ j = σ + 2 ∨ b = m + 13 ∧ j = σ + 2 ∨ pQ m (σ + 2) b j) (fun b j q => by omega) |>.trans (a3.mono fun b j q => Or.inr (Or.inr q))) fun b j q1 q2 => by unfold pQ at q1 ⊢; omega)
  have h24b : gI g2 m 24 = nI (σ + 2) := (b3.i (by unfold pQ; omega)).trans h24a
  rw [List.drop_zero] at a2 b2
  have hfin := done_of (n := n) (had := 2) hn hZ (by omega) (by omega) rfl b2 h24b
  have e5 : ∀ fu (k : Nat) g, gI g m 24 = nI (σ + 2) → k < σ + 2 → f_X11_unites_l37 n Z m (fu + 1) (nI k) g = f_X11_unites_l47 n Z (fun y0 y => f_X11_unites_l37 n Z m fu y0 y) m n (nI k) 0 g := by
    intro fu k g hg hk
    rw [f_X11_unites_l37, hg, if_neg (fun q => by have := (nle (by omega) (by omega)).mp q; omega)]
  have e3 : f_X11_unites n Z m g = bnd (f_X11_replaces n Z m (nI 2) g2) fun _ g19 => some ((), g19) := by
    unfold f_X11_unites
    simp (disch := omega) only [hZ.k, hZ.f18, hZ.k18, hZ.l18, hZ.f19, hZ.k19, hZ.l19, drf_s, grd_t, grd_true, h24, e2, inr_eq, clamp, hwa, h24']
    rw [← hg0, h24'', e2, show f_X11_unites_l37 n Z m n (nI σ) g0 = f_X11_unites_l37 n Z m (n' + 2 + 1) (nI σ) g0 by rw [← hn'], e5 _ _ _ h24'' (by omega)]
    refine Eq.trans a1 ?_
    rw [nI_1]
    show f_X11_unites_l37 n Z m (n' + 1 + 1) (nI (σ + 1)) g1 = _
    rw [e5 _ _ _ h24a (by omega)]
    refine Eq.trans b1 ?_
    rw [nI_1]
    show f_X11_unites_l37 n Z m (n' + 1) (nI (σ + 2)) g2 = _
    rw [f_X11_unites_l37, h24b, if_pos ((nle (by omega) (by omega)).mpr (Nat.le_refl _))]
    rfl
  have e4 : rAddL [] (A ++ B) = (rAddL [] A).bind fun rows => rAddL rows B := rAddL_app [] A B
  rw [e3, e4]
  exact hfin.pre (((l2.mono fun b j q => by unfold pW; omega).trans (a3.mono fun b j q => pQ_W (by omega) q)).trans (b3.mono fun b j q => pQ_W (by omega) q))

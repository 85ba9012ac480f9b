/-! SELECTION, PROJECTION, JOIN, UNION (the reference) -/
def kc (k : Nat) : Nat := if k = 0 then 65 else if k = 1 then 61 else if k = 2 then 126 else if k = 3 then 112 else if k = 4 then 106 else 117
/-- named columns as the reference keeps them, four for each -/
def b4 (cnt nd : Nat) : Nat → Nat
  | 0 => 0
  | i + 1 => 4 * b4 cnt nd i + dg cnt nd i
def mSec (nd : Nd) : Nat := if nd.1 = 3 then b4 nd.2.1 nd.2.2 nd.2.1 else nd.2.2
def StepAt (g : Mem) (m i : Nat) (nd : Nd) : Prop := gI g (m + 5) i = nI (kc nd.1) ∧ gI g (m + 6) i = nI nd.2.1 ∧ gI g (m + 7) i = nI (mSec nd)
theorem StepAt.ch {P : Nat → Nat → Prop} {g g' : Mem} {m i : Nat} {nd : Nd} (h : StepAt g m i nd) (hF : Ch P g g') (hP : ∀ b, b = m + 5 ∨ b = m + 6 ∨ b = m + 7 → ¬ P b i) : StepAt g' m i nd :=
  ⟨(hF.i (hP _ (Or.inl rfl))).trans h.1, (hF.i (hP _ (Or.inr (Or.inl rfl)))).trans h.2.1, (hF.i (hP _ (Or.inr (Or.inr rfl)))).trans h.2.2⟩
/-- how a step ends -/
def MDone (f : Option (Unit × Mem)) (g : Mem) (m σ w : Nat) (o : Option Rws) : Prop := ∃ g', f = some ((), g') ∧ MS g' m σ w o ∧ gI g' m 24 = nI (σ + 1) ∧ Ch (pW m σ) g g'
theorem MDone.pre {f : Option (Unit × Mem)} {g g1 : Mem} {m σ w : Nat} {o : Option Rws} (h : MDone f g1 m σ w o) (hF : Ch (pW m σ) g g1) : MDone f g m σ w o := by
  obtain ⟨g', h1, h2, h3, h4⟩ := h
  exact ⟨g', h1, h2, h3, hF.trans h4⟩
theorem MDone.cong {f f' : Option (Unit × Mem)} {g : Mem} {m σ w : Nat} {o : Option Rws} (h : MDone f g m σ w o) (e : f' = f) : MDone f' g m σ w o := e ▸ h
/-- a step ends by replacing -/
theorem done_of {n : Nat} {Z : Zt} {m ρ w had σ : Nat} {o : Option Rws} {g : Mem} (hn : 40 ≤ n) (hZ : MZ Z m) (hρ : ρ < 14) (h1 : 1 ≤ had) (h2 : ρ = σ + had) (hR : MS g m ρ w o) (ht : gI g m 24 = nI ρ) :
    MDone (bnd (f_X11_replaces n Z m (nI had) g) fun _ g19 => some ((), g19)) g m σ w o := by
  obtain ⟨g', e, a, b, c⟩ := replacesO (n := n) hn hZ hρ h1 (by omega) hR ht
  have hσ : ρ - had = σ := by omega
  rw [hσ] at a b c
  exact ⟨g', by rw [e, bnd_s], a, b, c.mono fun b j q => pS_W (Nat.le_refl _) q⟩
theorem MR.row {g : Mem} {m ρ w k : Nat} {rows : Rws} (h : MR g m ρ w rows) (hk : k < rows.length) : gI g (m + 14) (32 * ρ + k) = nI (rows.getD k (0, [])).1 ∧ (rows.getD k (0, [])).1 < 2147483648 ∧ MIs g m (32 * ρ + k) (rows.getD k (0, [])).2 := h.2.2.2 k hk
theorem filter_cons {p : Nat × Pol → Bool} {x : Nat × Pol} {L : Rws} : (x :: L).filter p = if p x = true then x :: L.filter p else L.filter p := by
  rw [List.filter_cons]
/-! selects -/
theorem sel_l37 {n : Nat} {Z : Zt} {m σ v i kind ca cb : Nat} {S : Rws} (hn : 40 ≤ n) (hZ : MZ Z m) (hσ : σ < 13) (hi : i < 60) (hv : v ≤ 4) (hca : ca < v) (hkd : kind = 1 ∧ cb < 10 ∨ kind = 2 ∧ cb < v) : ∀ (d k fu : Nat) (g : Mem) (o : Option Rws), d = S.length - k → k ≤ S.length → d < fu → MS g m (σ + 1) v o → gI g m 24 = nI (σ + 1) → MR g m σ v S → StepAt g m i (kind, ca, cb) →
    MDone (f_X11_selects_l37 n Z m fu (nI i) (nI σ) (nI v) (nI k) g) g m σ v (o.bind fun rows => rAddL rows ((S.drop k).filter fun x => selP kind v ca cb x.1)) := by
  intro d
  induction d with
  | zero =>
    intro k fu g o hd hk hfu hR h24 hS hT
    obtain ⟨fu, rfl⟩ : ∃ q, fu = q + 1 := ⟨fu - 1, by omega⟩
    have hke : k = S.length := by omega
    subst hke
    rw [List.drop_length, List.filter_nil, obind_nil]
    have h1 := hS.2.1
    have h2 := hS.2.2.1
    refine (done_of (n := n) (had := 1) hn hZ (by omega) (Nat.le_refl _) rfl hR h24).cong ?_
    rw [f_X11_selects_l37]
    simp (disch := omega) only [hZ.f19, drf_s, hZ.k19, hZ.l19, grd_t, grd_true, inr_eq, clamp, h1, nle, if_pos]
    rfl
  | succ d ih =>
    intro k fu g o hd hk hfu hR h24 hS hT
    obtain ⟨fu, rfl⟩ : ∃ q, fu = q + 1 := ⟨fu - 1, by omega⟩
    have h1 := hS.2.1
    have h2 := hS.2.2.1
    obtain ⟨r1, r2, r3⟩ := hS.row (k := k) (by omega)
    obtain ⟨t1, t2, t3⟩ := id hT
    have t2 : gI g (m + 6) i = nI ca := t2
    have t3 : gI g (m + 7) i = nI cb := by rw [t3]; unfold mSec; rw [if_neg (show ¬ kind = 3 by omega)]
    have e1 : ((32 : Int32) * nI σ) + nI k = nI (32 * σ + k) := by rw [← nI_add, ← mIJ]; rfl
    obtain ⟨x, hx⟩ : ∃ x, x = S.getD k (0, []) := ⟨_, rfl⟩
    rw [← hx] at r1 r2 r3
    have e94 : f_X11_selects_l37 n Z m (fu + 1) (nI i) (nI σ) (nI v) (nI k) g = f_X11_selects_l94 n Z (fun y0 y1 y2 y3 y => f_X11_selects_l37 n Z m fu y0 y1 y2 y3 y) m (nI i) (nI σ) (nI v) (nI k) (nI x.1) (nI (if kind = 2 then dg v x.1 cb else cb)) g := by
      rw [f_X11_selects_l37]
      simp (disch := omega) only [hZ.f19, hZ.f20, hZ.f9, hZ.f11, drf_s, hZ.k19, hZ.l19, hZ.k20, hZ.l20, hZ.k9, hZ.l9, hZ.k11, hZ.l11, grd_t, grd_true, e1, inr_eq, clamp, h1, nle, if_neg, r1, t1, t3]
      rcases hkd with ⟨q1, q2⟩ | ⟨q1, q2⟩
      · subst q1
        rw [if_pos (show nI (kc 1) = 61 from rfl), if_neg (by omega)]
      · subst q1
        rw [if_neg (show ¬ nI (kc 2) = 61 by decide), m_digit hn r2 hv q2, bnd_s, if_pos rfl]
    have hdl : dg v x.1 ca < 10 := dg_lt _ _ _
    have hdr : (if kind = 2 then dg v x.1 cb else cb) < 10 := by
      split
      · exact dg_lt _ _ _
      · omega
    have e2 : f_X11_selects_l94 n Z (fun y0 y1 y2 y3 y => f_X11_selects_l37 n Z m fu y0 y1 y2 y3 y) m (nI i) (nI σ) (nI v) (nI k) (nI x.1) (nI (if kind = 2 then dg v x.1 cb else cb)) g = if nI (dg v x.1 ca) = nI (if kind = 2 then dg v x.1 cb else cb) then (bnd (f_X11_addsRow n Z m (nI σ) (nI k) (nI (σ + 1)) (nI x.1) g) fun _ g50 => f_X11_selects_l37 n Z m fu (nI i) (nI σ) (nI v) (nI (k + 1)) g50) else f_X11_selects_l37 n Z m fu (nI i) (nI σ) (nI v) (nI (k + 1)) g := by
      unfold f_X11_selects_l94
      simp (disch := omega) only [hZ.f10, drf_s, hZ.k10, hZ.l10, grd_t, grd_true, inr_eq, clamp, t2]
      rw [m_digit hn r2 hv hca, bnd_s]
      simp only [h24, nI_1]
    rw [e94, e2, drop_one _ _ (0, []) (show k < S.length by omega), ← hx, filter_cons]
    have hsel : (selP kind v ca cb x.1 = true) ↔ dg v x.1 ca = if kind = 2 then dg v x.1 cb else cb := by unfold selP; exact decide_eq_true_iff
    by_cases hc : dg v x.1 ca = if kind = 2 then dg v x.1 cb else cb
    · rw [if_pos (by rw [← hc]), if_pos (hsel.mpr hc), obind_cons]
      obtain ⟨g1, a1, a2, a3⟩ := adds_row (n := n) (K := x.1) hn hZ (by omega) (show σ < 14 by omega) (by omega) (show k < 32 by omega) hR r2 r3
      rw [a1, bnd_s]
      exact (ih (k + 1) fu g1 _ (by omega) (by omega) (by omega) a2 ((a3.i (by unfold pQ; omega)).trans h24) (hS.ch a3 fun b j q1 q2 => by unfold pQ at q1 ⊢; omega) (hT.ch a3 fun b q => by unfold pQ; omega)).pre (a3.mono fun b j q => pQ_W (by omega) q)
    · rw [if_neg (fun q => hc ((neq (by omega) (by omega)).mp q)), if_neg (fun q => hc (hsel.mp q))]
      exact ih (k + 1) fu g o (by omega) (by omega) (by omega) hR h24 hS hT
theorem selects_ {n : Nat} {Z : Zt} {m σ v i kind ca cb : Nat} {S : Rws} {g : Mem} (hn : 40 ≤ n) (hZ : MZ Z m) (hσ : σ < 13) (hi : i < 60) (hv : v ≤ 4) (hca : ca < v) (hkd : kind = 1 ∧ cb < 10 ∨ kind = 2 ∧ cb < v) (h0 : gI g m 25 = 0) (h24 : gI g m 24 = nI (σ + 1)) (hS : MR g m σ v S) (hT : StepAt g m i (kind, ca, cb)) :
    MDone (f_X11_selects n Z m (nI i) g) g m σ v (rAddL [] (S.filter fun x => selP kind v ca cb x.1)) := by
  obtain ⟨l1, l2⟩ := lays0 (m := m) (ρ := σ + 1) (w := v) h0
  have hw := hS.1
  have e1 : nI (σ + 1) - (1 : Int32) = nI σ := subN (a := σ + 1) (b := 1) (by omega)
  have h24' : gI (sI g (m + 12) (σ + 1) (nI v)) m 24 = nI (σ + 1) := by simp (disch := omega) only [gI_sI, if_neg, h24]
  have := sel_l37 (n := n) hn hZ hσ hi hv hca hkd (S.length - 0) 0 n _ _ rfl (Nat.zero_le _) (by have := hS.2.2.1; omega) l1 ((l2.i (by omega)).trans h24) (hS.ch l2 fun b j q1 q2 => by unfold pQ at q1; omega) (hT.ch l2 fun b q => by omega)
  rw [List.drop_zero] at this
  refine (this.pre (l2.mono fun b j q => by unfold pW; omega)).cong ?_
  unfold f_X11_selects
  simp (disch := omega) only [hZ.k, hZ.f18, hZ.k18, hZ.l18, hZ.f19, hZ.k19, hZ.l19, drf_s, grd_t, grd_true, h24, e1, inr_eq, clamp, hw, h24']
  rfl
/-! projects -/
theorem b4_dig {cnt nd i : Nat} (hd : ∀ i, i < cnt → dg cnt nd i < 4) : ∀ j, i + 1 + j ≤ cnt → b4 cnt nd (i + 1 + j) / 2 ^ (2 * j) % 4 = dg cnt nd i := by
  intro j
  induction j with
  | zero =>
    intro h
    have := hd i (by omega)
    show (4 * b4 cnt nd i + dg cnt nd i) / 1 % 4 = _
    omega
  | succ j ih =>
    intro h
    have h1 := ih (by omega)
    have h2 := hd (i + 1 + j) (by omega)
    have e : b4 cnt nd (i + 1 + (j + 1)) / 2 ^ (2 * (j + 1)) = b4 cnt nd (i + 1 + j) / 2 ^ (2 * j) := by
      rw [show (2 : Nat) ^ (2 * (j + 1)) = 4 * 2 ^ (2 * j) by rw [Nat.mul_add, Nat.pow_add]; omega, ← Nat.div_div_eq_div_mul]
      congr 1
      show (4 * b4 cnt nd (i + 1 + j) + dg cnt nd (i + 1 + j)) / 4 = _
      omega
    rw [e]; exact h1
theorem b4_lt {cnt nd : Nat} (hd : ∀ i, i < cnt → dg cnt nd i < 4) : ∀ i, i ≤ cnt → b4 cnt nd i < 4 ^ i := by
  intro i
  induction i with
  | zero => intro _; exact Nat.one_pos
  | succ i ih =>
    intro h
    have := ih (by omega)
    have := hd i (by omega)
    show 4 * b4 cnt nd i + dg cnt nd i < 4 ^ (i + 1)
    rw [Nat.pow_succ]; omega
theorem prj_l8 {n : Nat} {Z : Zt} {v cnt nd K : Nat} {g : Mem} (hn : 40 ≤ n) (hv : v ≤ 4) (hc : cnt ≤ 4) (hnd : ∀ i, i < cnt → dg cnt nd i < v) (hK : K < 2147483648) : ∀ (r i fu : Nat), i + r = cnt → r < fu →
    f_X11_projected_l8 n Z fu (nI K) (nI v) (nI (b4 cnt nd cnt)) (nI (prjK v cnt nd K i)) (nI r + (-1)) g = some (nI (prjK v cnt nd K cnt), g) := by
  have hd4 : ∀ i, i < cnt → dg cnt nd i < 4 := fun i hi => by have := hnd i hi; omega
  intro r
  induction r with
  | zero =>
    intro i fu h hfu
    obtain ⟨fu, rfl⟩ : ∃ q, fu = q + 1 := ⟨fu - 1, by omega⟩
    have hie : i = cnt := by omega
    subst hie
    rw [f_X11_projected_l8, if_pos (by decide)]
  | succ r ih =>
    intro i fu h hfu
    obtain ⟨fu, rfl⟩ : ∃ q, fu = q + 1 := ⟨fu - 1, by omega⟩
    have hb := b4_lt hd4 cnt (Nat.le_refl _)
    have hb' : b4 cnt nd cnt < 256 := Nat.lt_of_lt_of_le hb (Nat.pow_le_pow_right (n := 4) (by omega) hc)
    have h1 := b4_dig hd4 (i := i) r (by omega)
    rw [show i + 1 + r = cnt by omega] at h1
    have e0 : nI (r + 1) + (-1 : Int32) = nI r := m1N (k := r + 1) (by omega)
    have e1 : ((2 : Int32) * nI r) = nI (2 * r) := by rw [← mIJ]; rfl
    have hdl : dg v K (dg cnt nd i) < 10 := dg_lt _ _ _
    have hp := prjK_lt v cnt nd K i
    have hp2 : prjK v cnt nd K i < 10000 := Nat.lt_of_lt_of_le hp (Nat.pow_le_pow_right (n := 10) (by omega) (show i ≤ 4 by omega))
    rw [e0, f_X11_projected_l8, if_neg (show ¬ nI r < 0 from fun q => nI_nlt (a := r) (b := 0) (Nat.zero_le _) (by omega) q), e1, shr_n (by omega) (by omega), and3 (by have := Nat.div_le_self (b4 cnt nd cnt) (2 ^ (2 * r)); omega), h1, m_digit hn hK hv (hnd i (by omega)), bnd_s]
    have e2 : ((10 : Int32) * nI (prjK v cnt nd K i)) + nI (dg v K (dg cnt nd i)) = nI (prjK v cnt nd K (i + 1)) := by
      rw [show ((10 : Int32) * nI (prjK v cnt nd K i)) = nI (10 * prjK v cnt nd K i) by rw [← mIJ]; rfl, nI_add]
      congr 1
      show _ = prjK v cnt nd K i * 10 + dg v K (dg cnt nd i)
      omega
    rw [e2]
    exact ih (i + 1) fu (by omega) (by omega)
theorem m_prj {n : Nat} {Z : Zt} {v cnt nd K : Nat} {g : Mem} (hn : 40 ≤ n) (hv : v ≤ 4) (hc : cnt ≤ 4) (h1 : 1 ≤ cnt) (hnd : ∀ i, i < cnt → dg cnt nd i < v) (hK : K < 2147483648) : f_X11_projected n Z (nI K) (nI v) (nI cnt) (nI (b4 cnt nd cnt)) g = some (nI (prjK v cnt nd K cnt), g) := by
  unfold f_X11_projected
  rw [show nI cnt - (1 : Int32) = nI cnt + (-1) by rw [m1N h1]; exact subN (a := cnt) (b := 1) h1]
  exact prj_l8 hn hv hc hnd hK cnt 0 n (by omega) (by omega)
theorem prj_l34 {n : Nat} {Z : Zt} {m σ v i cnt nd : Nat} {S : Rws} (hn : 40 ≤ n) (hZ : MZ Z m) (hσ : σ < 13) (hi : i < 60) (hv : v ≤ 4) (hc : cnt ≤ 4) (h1c : 1 ≤ cnt) (hnd : ∀ i, i < cnt → dg cnt nd i < v) : ∀ (d k fu : Nat) (g : Mem) (o : Option Rws), d = S.length - k → k ≤ S.length → d < fu → MS g m (σ + 1) cnt o → gI g m 24 = nI (σ + 1) → MR g m σ v S → StepAt g m i (3, cnt, nd) →
    MDone (f_X11_projects_l34 n Z m fu (nI i) (nI σ) (nI k) g) g m σ cnt (o.bind fun rows => rAddL rows ((S.drop k).map fun x => (prjK v cnt nd x.1 cnt, x.2))) := by
  intro d
  induction d with
  | zero =>
    intro k fu g o hd hk hfu hR h24 hS hT
    obtain ⟨fu, rfl⟩ : ∃ q, fu = q + 1 := ⟨fu - 1, by omega⟩
    have hke : k = S.length := by omega
    subst hke
    rw [List.drop_length, List.map_nil, obind_nil]
    have h1 := hS.2.1
    have h2 := hS.2.2.1
    refine (done_of (n := n) (had := 1) hn hZ (by omega) (Nat.le_refl _) rfl hR h24).cong ?_
    rw [f_X11_projects_l34]
    simp (disch := omega) only [hZ.f19, drf_s, hZ.k19, hZ.l19, grd_t, grd_true, inr_eq, clamp, h1, nle, if_pos]
    rfl
  | succ d ih =>
    intro k fu g o hd hk hfu hR h24 hS hT
    obtain ⟨fu, rfl⟩ : ∃ q, fu = q + 1 := ⟨fu - 1, by omega⟩
    have h1 := hS.2.1
    have h2 := hS.2.2.1
    cases o with
    | none =>
      have h25 : gI g m 25 = 1 := hR.1
      refine (done_of (n := n) (had := 1) (o := none) hn hZ (by omega) (Nat.le_refl _) rfl hR h24).cong ?_
      rw [f_X11_projects_l34]
      simp (disch := omega) only [hZ.f19, drf_s, hZ.k19, hZ.l19, grd_t, grd_true, inr_eq, clamp, h1, nle, if_neg, h25]
      exact if_neg i10
    | some rows =>
      have h0 : gI g m 25 = 0 := hR.2
      obtain ⟨r1, r2, r3⟩ := hS.row (k := k) (by omega)
      obtain ⟨t1, t2, t3⟩ := id hT
      have t2 : gI g (m + 6) i = nI cnt := t2
      have t3 : gI g (m + 7) i = nI (b4 cnt nd cnt) := t3
      have hw := hS.1
      have e1 : ((32 : Int32) * nI σ) + nI k = nI (32 * σ + k) := by rw [← nI_add, ← mIJ]; rfl
      obtain ⟨x, hx⟩ : ∃ x, x = S.getD k (0, []) := ⟨_, rfl⟩
      rw [← hx] at r1 r2 r3
      have hp := prjK_lt v cnt nd x.1 cnt
      have hp2 : prjK v cnt nd x.1 cnt < 10000 := Nat.lt_of_lt_of_le hp (Nat.pow_le_pow_right (n := 10) (by omega) hc)
      obtain ⟨g1, a1, a2, a3⟩ := adds_row (n := n) (K := prjK v cnt nd x.1 cnt) hn hZ (by omega) (show σ < 14 by omega) (by omega) (show k < 32 by omega) hR (by omega) r3
      have e0 : f_X11_projects_l34 n Z m (fu + 1) (nI i) (nI σ) (nI k) g = f_X11_projects_l34 n Z m fu (nI i) (nI σ) (nI (k + 1)) g1 := by
        rw [f_X11_projects_l34]
        simp (disch := omega) only [hZ.f19, hZ.f20, hZ.f18, hZ.f10, hZ.f11, drf_s, hZ.k19, hZ.l19, hZ.k20, hZ.l20, hZ.k18, hZ.l18, hZ.k10, hZ.l10, hZ.k11, hZ.l11, grd_t, grd_true, e1, inr_eq, clamp, h1, nle, if_neg, if_pos h0, r1, t2, t3, hw]
        rw [m_prj hn hv hc h1c hnd r2, bnd_s, h24, a1, bnd_s, nI_1]
      rw [e0, drop_one _ _ (0, []) (show k < S.length by omega), ← hx, List.map_cons, obind_cons]
      exact (ih (k + 1) fu g1 _ (by omega) (by omega) (by omega) a2 ((a3.i (by unfold pQ; omega)).trans h24) (hS.ch a3 fun b j q1 q2 => by unfold pQ at q1 ⊢; omega) (hT.ch a3 fun b q => by unfold pQ; omega)).pre (a3.mono fun b j q => pQ_W (by omega) q)
theorem projects_ {n : Nat} {Z : Zt} {m σ v i cnt nd : Nat} {S : Rws} {g : Mem} (hn : 40 ≤ n) (hZ : MZ Z m) (hσ : σ < 13) (hi : i < 60) (hv : v ≤ 4) (hc : cnt ≤ 4) (h1c : 1 ≤ cnt) (hnd : ∀ i, i < cnt → dg cnt nd i < v) (h0 : gI g m 25 = 0) (h24 : gI g m 24 = nI (σ + 1)) (hS : MR g m σ v S) (hT : StepAt g m i (3, cnt, nd)) :
    MDone (f_X11_projects n Z m (nI i) g) g m σ cnt (rAddL [] (S.map fun x => (prjK v cnt nd x.1 cnt, x.2))) := by
  obtain ⟨l1, l2⟩ := lays0 (m := m) (ρ := σ + 1) (w := cnt) h0
  have t2 : gI g (m + 6) i = nI cnt := hT.2.1
  have e1 : nI (σ + 1) - (1 : Int32) = nI σ := subN (a := σ + 1) (b := 1) (by omega)
  have h24' : gI (sI g (m + 12) (σ + 1) (nI cnt)) m 24 = nI (σ + 1) := by simp (disch := omega) only [gI_sI, if_neg, h24]
  have := prj_l34 (n := n) hn hZ hσ hi hv hc h1c hnd (S.length - 0) 0 n _ _ rfl (Nat.zero_le _) (by have := hS.2.2.1; omega) l1 ((l2.i (by omega)).trans h24) (hS.ch l2 fun b j q1 q2 => by unfold pQ at q1; omega) (hT.ch l2 fun b q => by omega)
  rw [List.drop_zero] at this
  refine (this.pre (l2.mono fun b j q => by unfold pW; omega)).cong ?_
  unfold f_X11_projects
  simp (disch := omega) only [hZ.k, hZ.f10, hZ.k10, hZ.l10, hZ.f18, hZ.k18, hZ.l18, hZ.f19, hZ.k19, hZ.l19, drf_s, grd_t, grd_true, h24, e1, inr_eq, clamp, t2, h24']
  rfl

/-! ROWS OF MEMORY, CALLS, ENDS -/
abbrev inr (i : Int32) (n : Nat) : Prop := ¬ i < 0 ∧ i.toNatClampNeg < n
theorem inr_in {i : Int32} {n : Nat} (h : inr i n) : ¬ (i < 0 ∨ n ≤ i.toNatClampNeg) := fun q => q.elim h.1 (fun q => Nat.not_lt.mpr q h.2)
abbrev isz (v : Int32) : Prop := v = 0 ∨ v = 1
theorem isz_nar {v : Int32} (h : isz v) : narrow .boolean (.int v) = .int v := by rcases h with rfl | rfl <;> rfl
theorem isz_fits {v : Int32} (h : isz v) : fits .boolean (.int v) = true := by rcases h with rfl | rfl <;> decide
theorem fvl_sI {Z : Zt} {g : Mem} {a b k : Nat} {v : Int32} (h : b ≠ a) (c j : Nat) : fvl Z (sI g a k v) c b j = fvl Z g c b j := by simp [fvl, gI_sI, gP_sI, h]
theorem fvl_sJ {Z : Zt} {g : Mem} {a b k : Nat} {v : Int64} (c j : Nat) : fvl Z (sJ g a k v) c b j = fvl Z g c b j := rfl
theorem fvl_sP {Z : Zt} {g : Mem} {a b k : Nat} {v : Option Nat} (h : b ≠ a) (c j : Nat) : fvl Z (sP g a k v) c b j = fvl Z g c b j := by simp [fvl, gI_sP, gP_sP, h]
theorem ev_sI {g : Mem} {a b k : Nat} {v : Int32} (h : b ≠ a) (t j : Nat) : ev t (sI g a k v) b j = ev t g b j := by simp [ev, gI_sI, gJ_sI, gP_sI, h]
theorem ev_sJ {g : Mem} {a b k : Nat} {v : Int64} (h : b ≠ a) (t j : Nat) : ev t (sJ g a k v) b j = ev t g b j := by simp [ev, gI_sJ, gJ_sJ, gP_sJ, h]
theorem ev_sP {g : Mem} {a b k : Nat} {v : Option Nat} (h : b ≠ a) (t j : Nat) : ev t (sP g a k v) b j = ev t g b j := by simp [ev, gI_sP, gJ_sP, gP_sP, h]
theorem HV.upd {xC : Nat → ClassId} {xI : Nat → Nat → Nat} {xD : Nat → ClassId} {Z : Zt} {g g' : Mem} {H H1 : Heap} {a : Nat} (h : HV xC xI xD Z g H) (oq : ∀ q : Nat, q ≠ a → H1[q]? = H[q]?)
    (hf : ∀ b c j, b ≠ a → fvl Z g' c b j = fvl Z g c b j) (he : ∀ b t j, b ≠ a → ev t g' b j = ev t g b j)
    (ho : ∀ c, c < 10 → zk Z a = c + 1 → t_OB a (xC c) (nF c) (xI c) H1 (fvl Z g' c a)) (hr : ∀ t, t < 7 → zk Z a = t + 11 → H1[a]? = some (arrV (xD t) (zl Z a) (ev t g' a))) : HV xC xI xD Z g' H1 := by
  refine ⟨fun b c hc hb => ?_, fun b t ht hb => ?_⟩
  · by_cases hba : b = a
    · subst hba; exact ho c hc hb
    · exact ((h.1 b c hc hb).kept (oq b hba)).to (fun k _ => (hf b c k hba).symm)
  · by_cases hba : b = a
    · subst hba; exact hr t ht hb
    · rw [oq b hba, h.2 b t ht hb]
      congr 2
      funext j
      exact (he b t j hba).symm
section MROWS
variable {x : Cq} {Z : Zt} {n0 k0 pc : Nat} {L : List (Nat × Value)} {rest : List Value} {g : Mem} {cc : ByteArray} {own : String} {nL : Nat}
theorem V_get (hC : Cx x cc own nL) {C : String} {T : u_T} {N c k a idx : Nat} {v : Value} (hcl : vwCl[c]? = some (C, T, N)) (hN : nF c = N) (hin : ∀ w ∈ u_ws C T N, w ∈ TB) (hz : zk Z a = c + 1) (hc : c < 10) (hk : k < N) (hw : Cond.fieldLink own idx (T k).1 (T k).2.1 (T k).2.2.1 ∈ TB) (hv : fvl Z g c a k = v) (hdg : decode cc pc = .ok (.getfield idx, 3))
    (kk : V x Z n0 k0 (pc + 3) L (v :: rest) g) : V x Z n0 k0 pc L (va_rf (some a) :: rest) g := by
  intro H locs ls h1 h2 h3
  obtain ⟨cell, q1, q2, q3, q4⟩ := h2.1.1 a c hc hz
  obtain ⟨hS, hfc, kC, hkC, hkind⟩ := hC.k.1 c _ hcl
  obtain ⟨cf, kf, fi, f, hi, hsl⟩ := hS k hk
  refine W.getf hC.x hC.b hC.o (hC.w _ hw) hi (u_facts hfc hkC (u_lays hC.w hin hk) hi).1 q1 (by rw [q3]; exact fun h => by cases h) (v := v) ?_ rfl rfl hdg (kk H locs ls h1 h2 h3)
  rw [hsl, q4 k (by rw [hN]; exact hk), hv]
theorem V_put (hC : Cx x cc own nL) {C : String} {T : u_T} {N c k a idx : Nat} {g' : Mem} {v : Value} {ty : FieldType} (ty0 : Nat → FieldType) (hcl : vwCl[c]? = some (C, T, N)) (hN : nF c = N) (hin : ∀ w ∈ u_ws C T N, w ∈ TB) (hty : ∀ k, k < N → parseFieldDescriptor (T k).2.2.1 = some (ty0 k)) (hnm : ∀ a, a < N → ∀ b, b < N → a ≠ b → (T a).2.1 ≠ (T b).2.1)
    (hz : zk Z a = c + 1) (hc : c < 10) (hk : k < N) (hw : Cond.fieldLink own idx (T k).1 (T k).2.1 (T k).2.2.1 ∈ TB) (hfin : (T k).2.2.2 = false) (hd : parseFieldDescriptor (T k).2.2.1 = some ty) (hn : narrow ty v = v) (hfit : fits ty v = true)
    (hf : ∀ b c j, b ≠ a → fvl Z g' c b j = fvl Z g c b j) (he : ∀ b t j, b ≠ a → ev t g' b j = ev t g b j) (hv : ∀ j, fvl Z g' c a j = updV (fvl Z g c a) k v j) (hA : ∀ q, zk Z q ≠ 0 → xA x q) (hdg : decode cc pc = .ok (.putfield idx, 3))
    (kk : V x Z n0 k0 (pc + 3) L rest g') : V x Z n0 k0 pc L (v :: va_rf (some a) :: rest) g := by
  intro H locs ls h1 h2 h3
  have hap := va_apart (D := (xC x, xI x)) (own := own) hC.w hin ty0 hty hnm hC.k hcl
  obtain ⟨cell, q1, q2, q3, q4⟩ := h2.1.1 a c hc hz
  obtain ⟨hS, hfc, kC, hkC, hkind⟩ := hC.k.1 c _ hcl
  obtain ⟨cf, kf, fi, f, hi, hsl⟩ := hS k hk
  have hlay := hC.w _ (hin _ (u_in_lay hk))
  unfold u_lay at hlay
  rw [if_neg (by rw [hfin]; decide)] at hlay
  have hst := (u_facts hfc hkC (u_lays hC.w hin hk) hi).1
  have h6 := u_store hfc hkC hkind hlay hi hd hn hfit
  have q4' : ∀ j, j < N → cell.slots[(xI x) c j]? = some (fvl Z g c a j) := fun j hj => q4 j (by rw [hN]; exact hj)
  refine W.putK hC.x hC.b (f := f) ⟨hC.o, hC.w _ hw, ⟨_, _, _, hi⟩, hst⟩ (by rw [q2]; exact h6) q1 q3 (by rw [hsl]; exact k2_hasslot (q4' k hk)) rfl rfl hdg fun H' e1 e2 e3 => ?_
  rw [hsl] at e1 ⊢
  refine kk H' _ ls h1 ⟨h2.1.upd e3 hf he ?_ ?_, e2.trans h2.2⟩ (h3.put e2 e3 (hA a (by omega)))
  · intro c' hc' hz'
    have : c' = c := by omega
    subst this
    exact t_OB.to (V := updV (fvl Z g c' a) k v) ⟨_, e1, q2, q3, by rw [hN]; exact t_set q4' hap hk v⟩ (fun j _ => (hv j).symm)
  · intro t ht hz'
    omega
theorem V_iald (hC : Cx x cc own nL) {a : Nat} {i : Int32} (hz : zk Z a = 12) (hi : inr i (zl Z a)) (hdg : decode cc pc = .ok (.iaload, 1))
    (kk : V x Z n0 k0 (pc + 1) L (.int (gI g a i.toNatClampNeg) :: rest) g) : V x Z n0 k0 pc L (.int i :: va_rf (some a) :: rest) g := by
  intro H locs ls h1 h2 h3
  have ha := h2.1.2 a 1 (by omega) hz
  exact W.iald (v := .int (gI g a i.toNatClampNeg)) hC.x hC.b ha ((hC.k.2 1 (xD x 1, .int) rfl).1 _ _) (fun q => by cases q) (by rw [arrV_size]; exact inr_in hi) (by rw [arrV_read _ _ hi.2]; rfl) rfl rfl hdg (kk H locs ls h1 h2 h3)
theorem V_cald (hC : Cx x cc own nL) {a : Nat} {i : Int32} (hz : zk Z a = 11) (hi : inr i (zl Z a)) (hdg : decode cc pc = .ok (.caload, 1))
    (kk : V x Z n0 k0 (pc + 1) L (.int (gI g a i.toNatClampNeg) :: rest) g) : V x Z n0 k0 pc L (.int i :: va_rf (some a) :: rest) g := by
  intro H locs ls h1 h2 h3
  have ha := h2.1.2 a 0 (by omega) hz
  exact W.cald (v := .int (gI g a i.toNatClampNeg)) hC.x hC.b ha ((hC.k.2 0 (xD x 0, .char) rfl).1 _ _) (fun q => by cases q) (by rw [arrV_size]; exact inr_in hi) (by rw [arrV_read _ _ hi.2]; rfl) rfl rfl hdg (kk H locs ls h1 h2 h3)
theorem V_lald (hC : Cx x cc own nL) {a : Nat} {i : Int32} (hz : zk Z a = 13) (hi : inr i (zl Z a)) (hdg : decode cc pc = .ok (.laload, 1))
    (kk : V x Z n0 k0 (pc + 1) L (.long (gJ g a i.toNatClampNeg) :: rest) g) : V x Z n0 k0 pc L (.int i :: va_rf (some a) :: rest) g := by
  intro H locs ls h1 h2 h3
  have ha := h2.1.2 a 2 (by omega) hz
  exact W.lald (v := .long (gJ g a i.toNatClampNeg)) hC.x hC.b ha ((hC.k.2 2 (xD x 2, .long) rfl).1 _ _) (fun q => by cases q) (by rw [arrV_size]; exact inr_in hi) (by rw [arrV_read _ _ hi.2]; rfl) rfl rfl hdg (kk H locs ls h1 h2 h3)
theorem V_qald4 (hC : Cx x cc own nL) {a : Nat} {i : Int32} (hz : zk Z a = 15) (hi : inr i (zl Z a)) (hdg : decode cc pc = .ok (.aaload, 1))
    (kk : V x Z n0 k0 (pc + 1) L (va_rf (gP g a i.toNatClampNeg) :: rest) g) : V x Z n0 k0 pc L (.int i :: va_rf (some a) :: rest) g := by
  intro H locs ls h1 h2 h3
  have ha := h2.1.2 a 4 (by omega) hz
  exact W.aald (v := va_rf (gP g a i.toNatClampNeg)) (ty := .object RX5) hC.x hC.b ha ((hC.k.2 4 (xD x 4, .object RX5) rfl).1 _ _) rfl (fun q => by cases q) (by rw [arrV_size]; exact inr_in hi) (by rw [arrV_read _ _ hi.2]; rfl) rfl rfl hdg (kk H locs ls h1 h2 h3)
theorem V_qald5 (hC : Cx x cc own nL) {a : Nat} {i : Int32} (hz : zk Z a = 16) (hi : inr i (zl Z a)) (hdg : decode cc pc = .ok (.aaload, 1))
    (kk : V x Z n0 k0 (pc + 1) L (va_rf (gP g a i.toNatClampNeg) :: rest) g) : V x Z n0 k0 pc L (.int i :: va_rf (some a) :: rest) g := by
  intro H locs ls h1 h2 h3
  have ha := h2.1.2 a 5 (by omega) hz
  exact W.aald (v := va_rf (gP g a i.toNatClampNeg)) (ty := .object RX7) hC.x hC.b ha ((hC.k.2 5 (xD x 5, .object RX7) rfl).1 _ _) rfl (fun q => by cases q) (by rw [arrV_size]; exact inr_in hi) (by rw [arrV_read _ _ hi.2]; rfl) rfl rfl hdg (kk H locs ls h1 h2 h3)
theorem V_qald6 (hC : Cx x cc own nL) {a : Nat} {i : Int32} (hz : zk Z a = 17) (hi : inr i (zl Z a)) (hdg : decode cc pc = .ok (.aaload, 1))
    (kk : V x Z n0 k0 (pc + 1) L (va_rf (gP g a i.toNatClampNeg) :: rest) g) : V x Z n0 k0 pc L (.int i :: va_rf (some a) :: rest) g := by
  intro H locs ls h1 h2 h3
  have ha := h2.1.2 a 6 (by omega) hz
  exact W.aald (v := va_rf (gP g a i.toNatClampNeg)) (ty := .object RX8) hC.x hC.b ha ((hC.k.2 6 (xD x 6, .object RX8) rfl).1 _ _) rfl (fun q => by cases q) (by rw [arrV_size]; exact inr_in hi) (by rw [arrV_read _ _ hi.2]; rfl) rfl rfl hdg (kk H locs ls h1 h2 h3)
theorem V_iast (hC : Cx x cc own nL) {a : Nat} {i : Int32} {v : Int32} (hz : zk Z a = 12) (hi : inr i (zl Z a)) (hA : ∀ q, zk Z q ≠ 0 → xA x q) (hdg : decode cc pc = .ok (.iastore, 1))
    (kk : V x Z n0 k0 (pc + 1) L rest (sI g a i.toNatClampNeg v)) : V x Z n0 k0 pc L (.int v :: .int i :: va_rf (some a) :: rest) g := by
  intro H locs ls h1 h2 h3
  have ha := h2.1.2 a 1 (by omega) hz
  refine W.iast hC.x hC.b ha ((hC.k.2 1 (xD x 1, .int) rfl).1 _ _) (fun q => by cases q) (by rw [arrV_size]; exact inr_in hi) rfl rfl hdg fun H' e1 e2 e3 => ?_
  refine kk H' _ ls h1 ⟨h2.1.upd e3 (fun b c j hb => fvl_sI hb c j) (fun b t j hb => ev_sI hb t j) ?_ ?_, e2.trans h2.2⟩ (h3.put e2 e3 (hA a (by omega)))
  · intro c hc hz'
    omega
  · intro t ht hz'
    have ht' : t = 1 := by omega
    subst ht'
    rw [e1, arrV_store]
    congr 2
    funext q
    by_cases hq : q = i.toNatClampNeg
    · subst hq
      simp [updV, ev, gI_sI, gJ_sJ, vp_nar, narrow]
    · simp [updV, ev, gI_sI, gJ_sJ, hq]
theorem V_cast (hC : Cx x cc own nL) {a : Nat} {i : Int32} {v : Int32} (hz : zk Z a = 11) (hi : inr i (zl Z a)) (hA : ∀ q, zk Z q ≠ 0 → xA x q) (hdg : decode cc pc = .ok (.castore, 1))
    (kk : V x Z n0 k0 (pc + 1) L rest (sI g a i.toNatClampNeg (vp_nar .char v))) : V x Z n0 k0 pc L (.int v :: .int i :: va_rf (some a) :: rest) g := by
  intro H locs ls h1 h2 h3
  have ha := h2.1.2 a 0 (by omega) hz
  refine W.cast hC.x hC.b ha ((hC.k.2 0 (xD x 0, .char) rfl).1 _ _) (fun q => by cases q) (by rw [arrV_size]; exact inr_in hi) rfl rfl hdg fun H' e1 e2 e3 => ?_
  refine kk H' _ ls h1 ⟨h2.1.upd e3 (fun b c j hb => fvl_sI hb c j) (fun b t j hb => ev_sI hb t j) ?_ ?_, e2.trans h2.2⟩ (h3.put e2 e3 (hA a (by omega)))
  · intro c hc hz'
    omega
  · intro t ht hz'
    have ht' : t = 0 := by omega
    subst ht'
    rw [e1, arrV_store]
    congr 2
    funext q
    by_cases hq : q = i.toNatClampNeg
    · subst hq
      simp [updV, ev, gI_sI, gJ_sJ, vp_nar, narrow]
    · simp [updV, ev, gI_sI, gJ_sJ, hq]
theorem V_last (hC : Cx x cc own nL) {a : Nat} {i : Int32} {v : Int64} (hz : zk Z a = 13) (hi : inr i (zl Z a)) (hA : ∀ q, zk Z q ≠ 0 → xA x q) (hdg : decode cc pc = .ok (.lastore, 1))
    (kk : V x Z n0 k0 (pc + 1) L rest (sJ g a i.toNatClampNeg v)) : V x Z n0 k0 pc L (.long v :: .int i :: va_rf (some a) :: rest) g := by
  intro H locs ls h1 h2 h3
  have ha := h2.1.2 a 2 (by omega) hz
  refine W.last hC.x hC.b ha ((hC.k.2 2 (xD x 2, .long) rfl).1 _ _) (fun q => by cases q) (by rw [arrV_size]; exact inr_in hi) rfl rfl hdg fun H' e1 e2 e3 => ?_
  refine kk H' _ ls h1 ⟨h2.1.upd e3 (fun b c j hb => fvl_sJ c j) (fun b t j hb => ev_sJ hb t j) ?_ ?_, e2.trans h2.2⟩ (h3.put e2 e3 (hA a (by omega)))
  · intro c hc hz'
    omega
  · intro t ht hz'
    have ht' : t = 2 := by omega
    subst ht'
    rw [e1, arrV_store]
    congr 2
    funext q
    by_cases hq : q = i.toNatClampNeg
    · subst hq
      simp [updV, ev, gI_sI, gJ_sJ, vp_nar, narrow]
    · simp [updV, ev, gI_sI, gJ_sJ, hq]
theorem V_qast (hC : Cx x cc own nL) {a b c t : Nat} {i : Int32} {r : vw_C} (hz : zk Z a = t + 11) (ht4 : 4 ≤ t) (ht7 : t < 7) (hi : inr i (zl Z a)) (hzb : zk Z b = c + 1) (hcl : vwCl[c]? = some r) (hc : c < 10) (htc : (tyl (xD x))[t]? = some (xD x t, .object r.1)) (hA : ∀ q, zk Z q ≠ 0 → xA x q) (hdg : decode cc pc = .ok (.aastore, 1))
    (kk : V x Z n0 k0 (pc + 1) L rest (sP g a i.toNatClampNeg (some b))) : V x Z n0 k0 pc L (va_rf (some b) :: .int i :: va_rf (some a) :: rest) g := by
  intro H locs ls h1 h2 h3
  have ha := h2.1.2 a t ht7 hz
  obtain ⟨cellV, g1, g2, g3, -⟩ := h2.1.1 b c hc hzb
  have hcls := (hC.k.1 c r hcl).2
  obtain ⟨kA, comp, k1, k2, k3, -⟩ := (hC.k.2 t _ htc).2
  have hcomp : comp = (xC x) c := Option.some.inj (k3.symm.trans hcls.1)
  subst hcomp
  obtain ⟨kC, hkC, -⟩ := hcls.2
  refine W.aast hC.x hC.b ha (fun q h => by cases h) (fun h => by cases h) k1 k2 rfl hkC ⟨hi.1, by rw [arrV_size]; exact hi.2⟩ g1 (fun q h => by rw [g3] at h; cases h) (by rw [g2]; exact hkC) (by rw [g2]; exact va_assign hcls) rfl rfl hdg fun H' e1 e2 e3 => ?_
  refine kk H' _ ls h1 ⟨h2.1.upd e3 (fun b c j hb => fvl_sP hb c j) (fun b t j hb => ev_sP hb t j) ?_ ?_, e2.trans h2.2⟩ (h3.put e2 e3 (hA a (by omega)))
  · intro c hc hz'
    omega
  · intro t' ht hz'
    have ht' : t' = t := by omega
    subst ht'
    rw [e1, arrV_store]
    congr 2
    funext q
    have h2' : ¬ t' = 2 := by omega
    by_cases hq : q = i.toNatClampNeg
    · subst hq
      simp [updV, ev, gP_sP, h2', ht4, va_rf]
    · simp [updV, ev, gI_sP, gJ_sP, gP_sP, hq, h2', ht4]
theorem V_alen (hC : Cx x cc own nL) {a t : Nat} {ty : FieldType} (hz : zk Z a = t + 11) (ht : t < 7) (hty : (tyl (xD x))[t]? = some (xD x t, ty)) (hdg : decode cc pc = .ok (.arraylength, 1))
    (kk : V x Z n0 k0 (pc + 1) L (.int (Int32.ofNat (zl Z a)) :: rest) g) : V x Z n0 k0 pc L (va_rf (some a) :: rest) g := by
  intro H locs ls h1 h2 h3
  exact W.alen hC.x hC.b (h2.1.2 a t ht hz) ((hC.k.2 t _ hty).1 _ _) (by rw [arrV_size]) rfl rfl hdg (kk H locs ls h1 h2 h3)
end MROWS
/-! CONTRACTS: a method's answer and the memory behind it, both said exactly; nothing is made -/
def wq (y : MethodName) (b : ByteArray) (nL : Nat) (ret : Option FieldType) : List Cond := .code y b nL ret :: TB
def rmq (d : Nat) : Room := { frames := d, cells := 0, slots := 0, locals := 40 * d }
def fre (Z : Zt) : Nat → Prop := fun q => zk Z q ≠ 0
def VM (y : MethodName) (b : ByteArray) (nL : Nat) (ret : Option FieldType) (d : Nat) (As : List Value) (Z : Zt) (g : Mem) (rv : Option Value) (g' : Mem) : Prop :=
  ∀ (l : Launch) (xC : Nat → ClassId) (xI : Nat → Nat → Nat) (xD : Nat → ClassId), Met l y (wq y b nL ret) (rmq d) (va_Pc As (fun U => HV xC xI xD Z g U.heap ∧ Kx xC xI xD U)) (fun _ st oc t => oc = .returned rv ∧ HV xC xI xD Z g' t.heap ∧ t.heap.size = st.heap.size ∧ va_F (fre Z) st t) 0 0 (fre Z)
def Cm (x : Cq) (b : ByteArray) (own : String) (nL : Nat) (ret : Option FieldType) (d : Nat) (Z : Zt) (rv : Option Value) (g' : Mem) : Prop :=
  Cx x b own nL ∧ (xM x).sig.returnType = ret ∧ xR x = rmq d ∧ xA x = fre Z ∧ xH x = (xs x).heap ∧ xQ x = MQ (xb x) (fun _ st oc t => oc = .returned rv ∧ HV (xC x) (xI x) (xD x) Z g' t.heap ∧ t.heap.size = st.heap.size ∧ va_F (fre Z) st t) (xa x) (xs x) 0 0 (fre Z)
theorem Cm.c {x : Cq} {b : ByteArray} {own : String} {nL : Nat} {ret : Option FieldType} {d : Nat} {Z : Zt} {rv : Option Value} {g' : Mem} (h : Cm x b own nL ret d Z rv g') : Cx x b own nL := h.1
theorem Cm.a {x : Cq} {b : ByteArray} {own : String} {nL : Nat} {ret : Option FieldType} {d : Nat} {Z : Zt} {rv : Option Value} {g' : Mem} (h : Cm x b own nL ret d Z rv g') : ∀ q, zk Z q ≠ 0 → xA x q := fun q hq => by rw [h.2.2.2.1]; exact hq
theorem VM.of {y : MethodName} {b : ByteArray} {nL : Nat} {ret : Option FieldType} {d : Nat} {As : List Value} {Z : Zt} {g : Mem} {rv : Option Value} {g' : Mem} (hy : plainName y.cls = true) (hn : (lg_sl As).length ≤ nL)
    (body : ∀ x : Cq, Cm x b y.cls nL ret d Z rv g' → V x Z 0 0 0 (lv_args 0 As) [] g) : VM y b nL ret d As Z g rv g' := by
  intro l xC xI xD
  refine Met.ofW (cc := b) (maxL := nL) (ret := ret) hy rfl ?_
  intro p e s m args below meth c s₁ B hml hv
  obtain ⟨rfl, hH, hK⟩ := hv
  have hts := atoms_spec (ws := wq y b nL ret) B.pre
  have hb := body (p, l, e, rmq d, s, m, As.toArray, below, meth, c, xC, xI, xD, fre Z, s.heap, MQ below (fun _ st oc t => oc = .returned rv ∧ HV xC xI xD Z g' t.heap ∧ t.heap.size = st.heap.size ∧ va_F (fre Z) st t) As.toArray s 0 0 (fre Z))
    ⟨⟨B.exec, B.bytes, hml, fun w h => hts w (List.mem_cons_of_mem _ h), findClass_of_methodNamed B.named, hK, B.notSynchronized⟩, B.returns, rfl, rfl, rfl, rfl⟩
  have hl := lv_entry As (n := nL) hn
  rw [lg_entry_eq]
  exact hb s.heap [] _ (by rw [show (xc _) = c from rfl, hml]; exact hl) ⟨hH, rfl⟩ va_S.rf
section ENDS
variable {x : Cq} {Z : Zt} {pc : Nat} {L : List (Nat × Value)} {g : Mem} {b : ByteArray} {own : String} {nL d : Nat}
theorem V_iret {v : Int32} (hM : Cm x b own nL (some .int) d Z (some (.int v)) g) (hdg : decode b pc = .ok (.ireturn, 1)) : V x Z 0 0 pc L [.int v] g := by
  obtain ⟨hC, hr, hR, hA, hH, hQ⟩ := hM
  intro H locs ls h1 h2 h3
  rw [hA, hH] at h3
  rw [hQ]
  exact W.iret hC.x hC.b hr (fun t ht hW => ⟨rfl, by rw [ht]; exact h2.1, by rw [ht, h2.2, hH]; rfl, h3.F ht⟩) h3.2.2 hdg hC.l
theorem V_zret {v : Int32} {ty : FieldType} (hM : Cm x b own nL (some ty) d Z (some (.int v)) g) (hn : narrow ty (.int v) = .int v) (hdg : decode b pc = .ok (.ireturn, 1)) : V x Z 0 0 pc L [.int v] g := by
  obtain ⟨hC, hr, hR, hA, hH, hQ⟩ := hM
  intro H locs ls h1 h2 h3
  rw [hA, hH] at h3
  rw [hQ]
  exact W.zret hC.x hC.b hr hn (fun t ht hW => ⟨rfl, by rw [ht]; exact h2.1, by rw [ht, h2.2, hH]; rfl, h3.F ht⟩) h3.2.2 hdg hC.l
theorem V_lret {v : Int64} (hM : Cm x b own nL (some .long) d Z (some (.long v)) g) (hdg : decode b pc = .ok (.lreturn, 1)) : V x Z 0 0 pc L [.long v] g := by
  obtain ⟨hC, hr, hR, hA, hH, hQ⟩ := hM
  intro H locs ls h1 h2 h3
  rw [hA, hH] at h3
  rw [hQ]
  exact W.lret hC.x hC.b hr (fun t ht hW => ⟨rfl, by rw [ht]; exact h2.1, by rw [ht, h2.2, hH]; rfl, h3.F ht⟩) h3.2.2 hdg hC.l
theorem V_fret {v : UInt32} (hM : Cm x b own nL (some .float) d Z (some (.float v)) g) (hdg : decode b pc = .ok (.freturn, 1)) : V x Z 0 0 pc L [.float v] g := by
  obtain ⟨hC, hr, hR, hA, hH, hQ⟩ := hM
  intro H locs ls h1 h2 h3
  rw [hA, hH] at h3
  rw [hQ]
  exact W.fret hC.x hC.b hr (fun t ht hW => ⟨rfl, by rw [ht]; exact h2.1, by rw [ht, h2.2, hH]; rfl, h3.F ht⟩) h3.2.2 hdg hC.l
theorem V_vret (hM : Cm x b own nL none d Z none g) (hdg : decode b pc = .ok (.return_, 1)) : V x Z 0 0 pc L [] g := by
  obtain ⟨hC, hr, hR, hA, hH, hQ⟩ := hM
  intro H locs ls h1 h2 h3
  rw [hA, hH] at h3
  rw [hQ]
  exact W.vret hC.x hC.b hr (fun t ht hW => ⟨rfl, by rw [ht]; exact h2.1, by rw [ht, h2.2, hH]; rfl, h3.F ht⟩) h3.2.2 hdg hC.l
theorem V_aret {v : Option Nat} {C : String} (hM : Cm x b own nL (some (.object C)) d Z (some (va_rf v)) g) (hdg : decode b pc = .ok (.areturn, 1)) : V x Z 0 0 pc L [va_rf v] g := by
  obtain ⟨hC, hr, hR, hA, hH, hQ⟩ := hM
  intro H locs ls h1 h2 h3
  rw [hA, hH] at h3
  rw [hQ]
  exact W.aret hC.x hC.b hr (Or.inl ⟨_, rfl⟩) (va_rf_or v) (fun t ht hW => ⟨rfl, by rw [ht]; exact h2.1, by rw [ht, h2.2, hH]; rfl, h3.F ht⟩) h3.2.2 hdg hC.l
end ENDS
section CALLS
variable {x : Cq} {Z : Zt} {n0 k0 pc : Nat} {L : List (Nat × Value)} {rest As : List Value} {g g1 : Mem} {b b' : ByteArray} {own : String} {nL nL' d' idx : Nat} {y : MethodName} {ret' : Option FieldType} {rv : Option Value}
theorem TB_goodIn {y : MethodName} {b : ByteArray} {nL : Nat} {ret : Option FieldType} (h : Cond.code y b nL ret ∈ TB) : GoodIn TB (wq y b nL ret) := fun w hw => by
  have hm : w ∈ TB := (List.mem_cons.mp hw).elim (fun e => e ▸ h) id
  exact ⟨hm, good_of_word (TB_good w hm)⟩
/-- what a method's own tables row says: its code, its class -/
def Mq (y : MethodName) (b : ByteArray) (nL : Nat) (ret : Option FieldType) (k : Nat) : Prop := Cond.code y b nL ret ∈ TB ∧ Cond.initialized y.cls ∈ TB ∧ (y.cls ≠ "java/lang/invoke/MethodHandle" ∧ y.cls ≠ "java/lang/invoke/VarHandle" ∧ (parseMethodDescriptor y.desc).map (fun d => d.parameters.length) = some k) ∧ nL ≤ 21
theorem callq (hC : Cx x b own nL) (hq : Mq y b' nL' ret' As.length) (hlink : Cond.methodLink own idx y ∈ TB) (hd : d' + 1 ≤ (xR x).frames ∧ 40 * d' + 40 ≤ (xR x).locals) : CallB (xR x) (xs x) (xa x) own idx y b' nL' ret' (wq y b' nL' ret') (rmq d') 0 0 As.length :=
  callB_of As.length hC.w (TB_goodIn hq.1) rfl rfl rfl (hC.w _ hq.2.1) (hC.w _ hlink) hq.2.2.1 ⟨hd.1, by have := hq.2.2.2; have := hd.2; show 8 + (nL' + 11) + 40 * d' ≤ _; omega⟩
theorem V_run (hA : ∀ q, zk Z q ≠ 0 → xA x q) {a : Array Value} {ls0 : List Value}
    (hr : ∀ (H : Heap) (locs : List Loc) (ls : Array Slot), lv_has ls (xc x).maxLocals L → HW x Z n0 g H → va_Run (xp x) (xl x) (xe x) (xR x) (xs x) (xm x) (xa x) (xb x) (xM x) (xc x) H locs n0 k0 0 0 (F0 (xm x) pc ls ls0) rest ((fun (_ : Array Value) (st : State) (oc : Outcome) (t : State) => oc = .returned rv ∧ HV (xC x) (xI x) (xD x) Z g1 t.heap ∧ t.heap.size = st.heap.size ∧ va_F (fre Z) st t) a) (fre Z))
    (kk : V x Z n0 k0 (pc + 3) L (rv.toList ++ rest) g1) : V x Z n0 k0 pc L ls0 g := by
  intro H locs ls h1 h2 h3 T hT X
  obtain ⟨v, st₀, t, T', L', h0, X', hL, e1, e2, ⟨hv, hHV, hzz, hz, hk⟩, st⟩ := hr H locs ls h1 h2 T hT X
  cases hv
  rw [h0] at hz hk hzz
  obtain ⟨t2, a1, b1⟩ := kk T'.heap (locs ++ L') ls h1 ⟨by rw [e1]; exact hHV, by rw [e1, hzz]; exact h2.2⟩
    ⟨Nat.le_trans h3.1 (by rw [e1]; exact hz), fun q h4 h5 => by rw [e1, hk q (Nat.lt_of_lt_of_le h4 h3.1) (fun z => h5 (hA q z))]; exact h3.2.1 q h4 h5, fun q hq => by
      rcases List.mem_append.mp hq with h | h
      · exact h3.2.2 q h
      · exact hA _ (hL q h)⟩ T' rfl X'
  exact ⟨t2, st t2 a1, b1⟩
theorem Pq_blind {As : List Value} {xC : Nat → ClassId} {xI : Nat → Nat → Nat} {xD : Nat → ClassId} : FrameBlind (va_Pc As (fun U => HV xC xI xD Z g U.heap ∧ Kx xC xI xD U)) := fun a U g mk q => by
  obtain ⟨q0, q1, q2⟩ := q
  exact ⟨q0, q1, q2.same rfl⟩
theorem V_callV (hC : Cx x b own nL) (hA : ∀ q, zk Z q ≠ 0 → xA x q) {a c : Nat} {T : u_T} {N : Nat} (hq : Mq y b' nL' ret' As.length) (hin : Cond.instanceMethod y ∈ TB ∧ Cond.selects y.cls y y ∈ TB) (hlink : Cond.methodLink own idx y ∈ TB) (hd : d' + 1 ≤ (xR x).frames ∧ 40 * d' + 40 ≤ (xR x).locals) (hn : n0 ≤ (xR x).cells ∧ k0 ≤ (xR x).slots)
    (hcl : vwCl[c]? = some (y.cls, T, N)) (hc : c < 10) (hz : zk Z a = c + 1) (hM : VM y b' nL' ret' d' (.ref a :: As) Z g rv g1) {ls0 : List Value} (hst : As.reverse ++ .ref a :: rest = ls0) (hW : (rest.map fun v => v.category).sum ≤ 8) (hdg : decode b pc = .ok (.invokevirtual idx, 3))
    (kk : V x Z n0 k0 (pc + 3) L (rv.toList ++ rest) g1) : V x Z n0 k0 pc L ls0 g := by
  refine V_run hA (a := (Value.ref a :: As).toArray) (fun H locs ls h1 h2 => ?_) kk
  refine va_runV ⟨hC.x, hC.b, hC.n, hC.o, hC.w⟩ (hM (xl x) (xC x) (xI x) (xD x)) ⟨callq hC hq hlink hd, hC.w _ hin.1, hC.w _ hin.2⟩ ⟨Pq_blind, ?_, fun U hU hW => ⟨rfl, by rw [hU]; exact h2.1, hC.K.moved hW⟩⟩ rfl rfl (by rw [← hC.n]; exact h1.1) hst.symm (lv_room hW) hdg hn
  obtain ⟨cell, g1, g2, g3, -⟩ := h2.1.1 a c hc hz
  exact ⟨cell, g1, by rw [g3]; rfl, by rw [g2]; exact (hC.k.1 c _ hcl).2.1⟩
theorem V_callS (hC : Cx x b own nL) (hA : ∀ q, zk Z q ≠ 0 → xA x q) (hq : Mq y b' nL' ret' As.length) (hin : Cond.static y ∈ TB) (hlink : Cond.methodLink own idx y ∈ TB) (hd : d' + 1 ≤ (xR x).frames ∧ 40 * d' + 40 ≤ (xR x).locals) (hn : n0 ≤ (xR x).cells ∧ k0 ≤ (xR x).slots)
    (hM : VM y b' nL' ret' d' As Z g rv g1) {ls0 : List Value} (hst : As.reverse ++ rest = ls0) (hW : (rest.map fun v => v.category).sum ≤ 8) (hdg : decode b pc = .ok (.invokestatic idx, 3))
    (kk : V x Z n0 k0 (pc + 3) L (rv.toList ++ rest) g1) : V x Z n0 k0 pc L ls0 g := by
  refine V_run hA (a := As.toArray) (fun H locs ls h1 h2 => ?_) kk
  exact va_runS ⟨hC.x, hC.b, hC.n, hC.o, hC.w⟩ (hM (xl x) (xC x) (xI x) (xD x)) ⟨callq hC hq hlink hd, hC.w _ hin⟩ ⟨Pq_blind, fun U hU hW => ⟨rfl, by rw [hU]; exact h2.1, hC.K.moved hW⟩⟩ rfl rfl (by rw [← hC.n]; exact h1.1) hst.symm (lv_room hW) hdg hn
theorem Cm.d {ret : Option FieldType} {d : Nat} {g' : Mem} (h : Cm x b own nL ret d Z rv g') (hd : d' + 1 ≤ d) : d' + 1 ≤ (xR x).frames ∧ 40 * d' + 40 ≤ (xR x).locals := by
  rw [h.2.2.1]
  exact ⟨hd, by show _ ≤ 40 * d; omega⟩
theorem Cm.z {ret : Option FieldType} {d : Nat} {g' : Mem} (h : Cm x b own nL ret d Z rv g') : 0 ≤ (xR x).cells ∧ 0 ≤ (xR x).slots := ⟨Nat.zero_le _, Nat.zero_le _⟩
/-- a nest mate's static method -/
theorem V_callSN (hC : Cx x b own nL) (hA : ∀ q, zk Z q ≠ 0 → xA x q) (hq : Mq y b' nL' ret' As.length) (hin : Cond.static y ∈ TB) (hlink : (own, idx, y) ∈ NW) (hd : d' + 1 ≤ (xR x).frames ∧ 40 * d' + 40 ≤ (xR x).locals) (hn : n0 ≤ (xR x).cells ∧ k0 ≤ (xR x).slots)
    (hM : VM y b' nL' ret' d' As Z g rv g1) {ls0 : List Value} (hst : As.reverse ++ rest = ls0) (hW : (rest.map fun v => v.category).sum ≤ 8) (hdg : decode b pc = .ok (.invokestatic idx, 3))
    (kk : V x Z n0 k0 (pc + 3) L (rv.toList ++ rest) g1) : V x Z n0 k0 pc L ls0 g := by
  refine V_run hA (a := As.toArray) (fun H locs ls h1 h2 => ?_) kk
  exact va_runSN ⟨hC.x, hC.b, hC.n, hC.o, hC.w⟩ (hM (xl x) (xC x) (xI x) (xD x)) ⟨va_cnB As.length hC.w (TB_goodIn hq.1) rfl rfl rfl (hC.K.2.1 _ hlink) (hC.w _ hq.2.1) hq.2.2.1 ⟨hd.1, by have := hq.2.2.2; have := hd.2; show 8 + (nL' + 11) + 40 * d' ≤ _; omega⟩, hC.w _ hin, trivial⟩ ⟨Pq_blind, fun U hU hW => ⟨rfl, by rw [hU]; exact h2.1, hC.K.moved hW⟩⟩ rfl rfl (by rw [← hC.n]; exact h1.1) hst.symm (lv_room hW) hdg hn
end CALLS
/-! WHAT THE FUNCTIONS ARE MADE OF (they answer 'none' where the machine would throw, or where the fuel ends) -/
def bnd {α β : Type} (o : Option (α × Mem)) (k : α → Mem → Option β) : Option β := match o with
  | none => none
  | some r => k r.1 r.2
theorem bnd_some {α β : Type} {o : Option (α × Mem)} {k : α → Mem → Option β} {r : β} (h : bnd o k = some r) : ∃ v g, o = some (v, g) ∧ k v g = some r := by
  cases o with
  | none => cases h
  | some q => exact ⟨q.1, q.2, rfl, h⟩
def grd {β : Type} (p : Prop) [Decidable p] (k : Option β) : Option β := if p then k else none
theorem grd_some {β : Type} {p : Prop} [Decidable p] {k : Option β} {r : β} (h : grd p k = some r) : p ∧ k = some r := by
  by_cases c : p
  · exact ⟨c, by simpa [grd, c] using h⟩
  · simp [grd, c] at h
def drf {β : Type} (q : Option Nat) (k : Nat → Option β) : Option β := match q with
  | none => none
  | some a => k a
theorem drf_some {β : Type} {q : Option Nat} {k : Nat → Option β} {r : β} (h : drf q k = some r) : ∃ a, q = some a ∧ k a = some r := by
  cases q with
  | none => cases h
  | some a => exact ⟨a, rfl, h⟩
def nam {α β : Type} (v : α) (k : α → Option β) : Option β := k v
theorem nam_some {α β : Type} {v : α} {k : α → Option β} {r : β} (h : nam v k = some r) : ∃ u, u = v ∧ k u = some r := ⟨v, rfl, h⟩
theorem ite_p {α : Type} {p : Prop} [Decidable p] {a b r : Option α} (h : (if p then a else b) = r) (c : p) : a = r := by rw [if_pos c] at h; exact h
theorem ite_n {α : Type} {p : Prop} [Decidable p] {a b r : Option α} (h : (if p then a else b) = r) (c : ¬ p) : b = r := by rw [if_neg c] at h; exact h
theorem char_nar {v : Int32} (h : vp_nar .char v = v) : narrow .char (.int v) = .int v := by
  rw [show narrow .char (.int v) = .int (vp_nar .char v) from rfl, h]
theorem cat_i (v : Int32) : (Value.int v).category = 1 := rfl
theorem cat_l (v : Int64) : (Value.long v).category = 2 := rfl
section ENDE
variable {x : Cq} {Z : Zt} {pc : Nat} {L : List (Nat × Value)} {g gg : Mem} {b : ByteArray} {own : String} {nL d : Nat}
theorem V_iretE {v r : Int32} (hM : Cm x b own nL (some .int) d Z (some (.int r)) gg) (h : (some (v, g) : Option (Int32 × Mem)) = some (r, gg)) (hdg : decode b pc = .ok (.ireturn, 1)) : V x Z 0 0 pc L [.int v] g := by
  cases h; exact V_iret hM hdg
theorem V_zretE {v r : Int32} {ty : FieldType} (hM : Cm x b own nL (some ty) d Z (some (.int r)) gg) (hn : narrow ty (.int v) = .int v) (h : (some (v, g) : Option (Int32 × Mem)) = some (r, gg)) (hdg : decode b pc = .ok (.ireturn, 1)) : V x Z 0 0 pc L [.int v] g := by
  cases h; exact V_zret hM hn hdg
theorem V_lretE {v r : Int64} (hM : Cm x b own nL (some .long) d Z (some (.long r)) gg) (h : (some (v, g) : Option (Int64 × Mem)) = some (r, gg)) (hdg : decode b pc = .ok (.lreturn, 1)) : V x Z 0 0 pc L [.long v] g := by
  cases h; exact V_lret hM hdg
theorem V_fretE {v r : UInt32} (hM : Cm x b own nL (some .float) d Z (some (.float r)) gg) (h : (some (v, g) : Option (UInt32 × Mem)) = some (r, gg)) (hdg : decode b pc = .ok (.freturn, 1)) : V x Z 0 0 pc L [.float v] g := by
  cases h; exact V_fret hM hdg
theorem V_vretE {r : Unit} (hM : Cm x b own nL none d Z none gg) (h : (some ((), g) : Option (Unit × Mem)) = some (r, gg)) (hdg : decode b pc = .ok (.return_, 1)) : V x Z 0 0 pc L [] g := by
  cases h; exact V_vret hM hdg
theorem V_aretE {v r : Option Nat} {C : String} (hM : Cm x b own nL (some (.object C)) d Z (some (va_rf r)) gg) (h : (some (v, g) : Option (Option Nat × Mem)) = some (r, gg)) (hdg : decode b pc = .ok (.areturn, 1)) : V x Z 0 0 pc L [va_rf v] g := by
  cases h; exact V_aret hM hdg
end ENDE
section MORE
variable {x : Cq} {Z : Zt} {n0 k0 pc : Nat} {L : List (Nat × Value)} {rest : List Value} {g : Mem} {cc : ByteArray} {own : String} {nL : Nat}
theorem V_iushr (hC : Cx x cc own nL) {a b : Int32} (hdg : decode cc pc = .ok (.iushr, 1)) (kk : V x Z n0 k0 (pc + 1) L (.int ((a.toUInt32 >>> (b.toUInt32 &&& Int32.toUInt32 31)).toInt32) :: rest) g) : V x Z n0 k0 pc L (.int b :: .int a :: rest) g := fun H locs ls h1 h2 h3 => lv_iushr hC.x hC.b hdg rfl (kk H locs ls h1 h2 h3)
theorem V_tblK (hC : Cx x cc own nL) {dflt lo hi off : Int} {offs : Array Int} {len : Nat} {a k : Int32} (tgt : Nat) (ha : a = k) (hdg : decode cc pc = .ok (.tableswitch dflt lo hi offs, len)) (h1 : ¬ k.toInt < lo) (h2 : ¬ hi < k.toInt) (ho : offs[(k.toInt - lo).toNat]? = some off) (ht : (pc : Int) + off = (tgt : Int)) (kk : V x Z n0 k0 tgt L rest g) : V x Z n0 k0 pc L (.int a :: rest) g := by
  subst ha
  exact fun H locs ls q1 q2 q3 => lv_tableIn hC.x hC.b hdg h1 h2 ho ht (kk H locs ls q1 q2 q3)
theorem V_tblD (hC : Cx x cc own nL) {dflt lo hi : Int} {offs : Array Int} {len : Nat} {a : Int32} (tgt : Nat) (hdg : decode cc pc = .ok (.tableswitch dflt lo hi offs, len)) (h : a.toInt < lo ∨ hi < a.toInt) (ht : (pc : Int) + dflt = (tgt : Int)) (kk : V x Z n0 k0 tgt L rest g) : V x Z n0 k0 pc L (.int a :: rest) g := fun H locs ls q1 q2 q3 => lv_tableOut hC.x hC.b hdg h ht (kk H locs ls q1 q2 q3)
theorem V_lookK (hC : Cx x cc own nL) {dflt off : Int} {ps : Array (Int × Int)} {len : Nat} {a k : Int32} (tgt : Nat) (ha : a = k) (hdg : decode cc pc = .ok (.lookupswitch dflt ps, len)) (hp : (ps.toList.zip (ps.toList.drop 1)).all (fun (a, next) => a.1 < next.1) = true) (ho : Op.lookupswitch.offset ps.toList dflt k.toInt = off) (ht : (pc : Int) + off = (tgt : Int)) (kk : V x Z n0 k0 tgt L rest g) : V x Z n0 k0 pc L (.int a :: rest) g := by
  subst ha
  exact fun H locs ls q1 q2 q3 => lv_lookup hC.x hC.b hdg hp ho ht (kk H locs ls q1 q2 q3)
theorem V_lookD (hC : Cx x cc own nL) {dflt : Int} {ps : Array (Int × Int)} {len : Nat} {a : Int32} (tgt : Nat) (hdg : decode cc pc = .ok (.lookupswitch dflt ps, len)) (hp : (ps.toList.zip (ps.toList.drop 1)).all (fun (a, next) => a.1 < next.1) = true) (ho : Op.lookupswitch.offset ps.toList dflt a.toInt = dflt) (ht : (pc : Int) + dflt = (tgt : Int)) (kk : V x Z n0 k0 tgt L rest g) : V x Z n0 k0 pc L (.int a :: rest) g := fun H locs ls q1 q2 q3 => lv_lookup hC.x hC.b hdg hp ho ht (kk H locs ls q1 q2 q3)
theorem V_max (hC : Cx x cc own nL) {idx : Nat} {a b : Int32} (hw : Cond.methodLink own idx Lib.Math.max.name ∈ TB) (hstat : Cond.static Lib.Math.max.name ∈ TB) (hini : Cond.initialized "java/lang/Math" ∈ TB) (hcode : Cond.code Lib.Math.max.name Lib.Math.max.code 2 (some .int) ∈ TB) (hd : 1 ≤ (xR x).frames ∧ 40 ≤ (xR x).locals) (hn : n0 ≤ (xR x).cells ∧ k0 ≤ (xR x).slots) (hW : (rest.map fun v => v.category).sum ≤ 8) (hdg : decode cc pc = .ok (.invokestatic idx, 3))
    (kk : V x Z n0 k0 (pc + 3) L (.int (if a < b then b else a) :: rest) g) : V x Z n0 k0 pc L (.int b :: .int a :: rest) g := fun H locs ls q1 q2 q3 => va_mmax hC.x hC.b q1.1.symm hC.o (hC.w _ hw) (hC.w _ hstat) (hC.w _ hini) (hC.w _ hcode) hd.1 (by have := hd.2; omega) hn.1 hn.2 hdg (kk H locs ls q1 q2 q3)
theorem V_min (hC : Cx x cc own nL) {idx : Nat} {a b : Int32} (hw : Cond.methodLink own idx Lib.Math.min.name ∈ TB) (hstat : Cond.static Lib.Math.min.name ∈ TB) (hini : Cond.initialized "java/lang/Math" ∈ TB) (hcode : Cond.code Lib.Math.min.name Lib.Math.min.code 2 (some .int) ∈ TB) (hd : 1 ≤ (xR x).frames ∧ 40 ≤ (xR x).locals) (hn : n0 ≤ (xR x).cells ∧ k0 ≤ (xR x).slots) (hW : (rest.map fun v => v.category).sum ≤ 8) (hdg : decode cc pc = .ok (.invokestatic idx, 3))
    (kk : V x Z n0 k0 (pc + 3) L (.int (if b < a then b else a) :: rest) g) : V x Z n0 k0 pc L (.int b :: .int a :: rest) g := fun H locs ls q1 q2 q3 => va_mmin hC.x hC.b q1.1.symm hC.o (hC.w _ hw) (hC.w _ hstat) (hC.w _ hini) (hC.w _ hcode) hd.1 (by have := hd.2; omega) hn.1 hn.2 hdg (kk H locs ls q1 q2 q3)
theorem fvl_putI {c a k : Nat} {v : Int32} (hfc : fc c k = 0) (j : Nat) : fvl Z (sI g a k v) c a j = updV (fvl Z g c a) k (.int v) j := by
  by_cases h : j = k
  · subst h; simp [fvl, updV, hfc, gI_sI]
  · simp [fvl, updV, gI_sI, gP_sI, h]
theorem fvl_putP {c a k : Nat} {v : Option Nat} (hfc : fc c k = 2) (j : Nat) : fvl Z (sP g a k v) c a j = updV (fvl Z g c a) k (va_rf v) j := by
  by_cases h : j = k
  · subst h; simp [fvl, updV, hfc, gP_sP]
  · simp [fvl, updV, gI_sP, gP_sP, h]
theorem rf_nar (C : String) (v : Option Nat) : narrow (.object C) (va_rf v) = va_rf v := by cases v <;> rfl
theorem rf_fits (C : String) (v : Option Nat) : fits (.object C) (va_rf v) = true := by cases v <;> rfl
theorem G0_0 (hC : Cx x cc own nL) {a idx b : Nat} (hw : Cond.fieldLink own idx "ProvenanceTables$Evaluator" "stack" "[LProvenanceTables$Relation;" ∈ TB) (hz : zk Z a = 1) (hb : zf Z a 0 = some b) (hdg : decode cc pc = .ok (.getfield idx, 3)) (kk : V x Z n0 k0 (pc + 3) L (va_rf (some b) :: rest) g) : V x Z n0 k0 pc L (va_rf (some a) :: rest) g := V_get (C := RX0) (T := TX0) (N := 4) (c := 0) (k := 0) hC rfl rfl inX0 hz (by omega) (by omega) hw (congrArg va_rf hb) hdg kk
theorem G0_1 (hC : Cx x cc own nL) {a idx : Nat} {u : Option Nat} (hw : Cond.fieldLink own idx "ProvenanceTables$Evaluator" "spare" "LProvenanceTables$Relation;" ∈ TB) (hz : zk Z a = 1) (hu : u = gP g a 1) (hdg : decode cc pc = .ok (.getfield idx, 3)) (kk : V x Z n0 k0 (pc + 3) L (va_rf u :: rest) g) : V x Z n0 k0 pc L (va_rf (some a) :: rest) g := V_get (C := RX0) (T := TX0) (N := 4) (c := 0) (k := 1) hC rfl rfl inX0 hz (by omega) (by omega) hw (congrArg va_rf hu.symm) hdg kk
theorem P0_1 (hC : Cx x cc own nL) {a idx : Nat} {v : Option Nat} (hw : Cond.fieldLink own idx "ProvenanceTables$Evaluator" "spare" "LProvenanceTables$Relation;" ∈ TB) (hz : zk Z a = 1) (hA : ∀ q, zk Z q ≠ 0 → xA x q) (hdg : decode cc pc = .ok (.putfield idx, 3)) (kk : V x Z n0 k0 (pc + 3) L rest (sP g a 1 v)) : V x Z n0 k0 pc L (va_rf v :: va_rf (some a) :: rest) g := V_put (C := RX0) (T := TX0) (N := 4) (c := 0) (k := 1) (ty := .object "ProvenanceTables$Relation") hC tyX0 rfl rfl inX0 tyX0_ok nmX0 hz (by omega) (by omega) hw rfl (by decide +kernel) (rf_nar _ _) (rf_fits _ _) (fun b c j hb => fvl_sP hb c j) (fun b t j hb => ev_sP hb t j) (fvl_putP rfl) hA hdg kk
theorem G0_2 (hC : Cx x cc own nL) {a idx : Nat} {u : Option Nat} (hw : Cond.fieldLink own idx "ProvenanceTables$Evaluator" "answer" "LProvenanceTables$Relation;" ∈ TB) (hz : zk Z a = 1) (hu : u = gP g a 2) (hdg : decode cc pc = .ok (.getfield idx, 3)) (kk : V x Z n0 k0 (pc + 3) L (va_rf u :: rest) g) : V x Z n0 k0 pc L (va_rf (some a) :: rest) g := V_get (C := RX0) (T := TX0) (N := 4) (c := 0) (k := 2) hC rfl rfl inX0 hz (by omega) (by omega) hw (congrArg va_rf hu.symm) hdg kk
theorem P0_2 (hC : Cx x cc own nL) {a idx : Nat} {v : Option Nat} (hw : Cond.fieldLink own idx "ProvenanceTables$Evaluator" "answer" "LProvenanceTables$Relation;" ∈ TB) (hz : zk Z a = 1) (hA : ∀ q, zk Z q ≠ 0 → xA x q) (hdg : decode cc pc = .ok (.putfield idx, 3)) (kk : V x Z n0 k0 (pc + 3) L rest (sP g a 2 v)) : V x Z n0 k0 pc L (va_rf v :: va_rf (some a) :: rest) g := V_put (C := RX0) (T := TX0) (N := 4) (c := 0) (k := 2) (ty := .object "ProvenanceTables$Relation") hC tyX0 rfl rfl inX0 tyX0_ok nmX0 hz (by omega) (by omega) hw rfl (by decide +kernel) (rf_nar _ _) (rf_fits _ _) (fun b c j hb => fvl_sP hb c j) (fun b t j hb => ev_sP hb t j) (fvl_putP rfl) hA hdg kk
theorem G0_3 (hC : Cx x cc own nL) {a idx : Nat} (hw : Cond.fieldLink own idx "ProvenanceTables$Evaluator" "top" "I" ∈ TB) (hz : zk Z a = 1) (hdg : decode cc pc = .ok (.getfield idx, 3)) (kk : V x Z n0 k0 (pc + 3) L (.int (gI g a 3) :: rest) g) : V x Z n0 k0 pc L (va_rf (some a) :: rest) g := V_get (C := RX0) (T := TX0) (N := 4) (c := 0) (k := 3) hC rfl rfl inX0 hz (by omega) (by omega) hw rfl hdg kk
theorem P0_3 (hC : Cx x cc own nL) {a idx : Nat} {v : Int32} (hw : Cond.fieldLink own idx "ProvenanceTables$Evaluator" "top" "I" ∈ TB) (hz : zk Z a = 1) (hA : ∀ q, zk Z q ≠ 0 → xA x q) (hdg : decode cc pc = .ok (.putfield idx, 3)) (kk : V x Z n0 k0 (pc + 3) L rest (sI g a 3 v)) : V x Z n0 k0 pc L (.int v :: va_rf (some a) :: rest) g := V_put (C := RX0) (T := TX0) (N := 4) (c := 0) (k := 3) (ty := .int) hC tyX0 rfl rfl inX0 tyX0_ok nmX0 hz (by omega) (by omega) hw rfl (by decide +kernel) rfl rfl (fun b c j hb => fvl_sI hb c j) (fun b t j hb => ev_sI hb t j) (fvl_putI rfl) hA hdg kk
theorem G1_0 (hC : Cx x cc own nL) {a idx b : Nat} (hw : Cond.fieldLink own idx "ProvenanceTables$History" "states" "[LProvenanceTables$State;" ∈ TB) (hz : zk Z a = 2) (hb : zf Z a 0 = some b) (hdg : decode cc pc = .ok (.getfield idx, 3)) (kk : V x Z n0 k0 (pc + 3) L (va_rf (some b) :: rest) g) : V x Z n0 k0 pc L (va_rf (some a) :: rest) g := V_get (C := RX1) (T := TX1) (N := 2) (c := 1) (k := 0) hC rfl rfl inX1 hz (by omega) (by omega) hw (congrArg va_rf hb) hdg kk
theorem G1_1 (hC : Cx x cc own nL) {a idx : Nat} (hw : Cond.fieldLink own idx "ProvenanceTables$History" "size" "I" ∈ TB) (hz : zk Z a = 2) (hdg : decode cc pc = .ok (.getfield idx, 3)) (kk : V x Z n0 k0 (pc + 3) L (.int (gI g a 1) :: rest) g) : V x Z n0 k0 pc L (va_rf (some a) :: rest) g := V_get (C := RX1) (T := TX1) (N := 2) (c := 1) (k := 1) hC rfl rfl inX1 hz (by omega) (by omega) hw rfl hdg kk
theorem P1_1 (hC : Cx x cc own nL) {a idx : Nat} {v : Int32} (hw : Cond.fieldLink own idx "ProvenanceTables$History" "size" "I" ∈ TB) (hz : zk Z a = 2) (hA : ∀ q, zk Z q ≠ 0 → xA x q) (hdg : decode cc pc = .ok (.putfield idx, 3)) (kk : V x Z n0 k0 (pc + 3) L rest (sI g a 1 v)) : V x Z n0 k0 pc L (.int v :: va_rf (some a) :: rest) g := V_put (C := RX1) (T := TX1) (N := 2) (c := 1) (k := 1) (ty := .int) hC tyX1 rfl rfl inX1 tyX1_ok nmX1 hz (by omega) (by omega) hw rfl (by decide +kernel) rfl rfl (fun b c j hb => fvl_sI hb c j) (fun b t j hb => ev_sI hb t j) (fvl_putI rfl) hA hdg kk
theorem G2_0 (hC : Cx x cc own nL) {a idx b : Nat} (hw : Cond.fieldLink own idx "ProvenanceTables$Line" "signs" "[C" ∈ TB) (hz : zk Z a = 3) (hb : zf Z a 0 = some b) (hdg : decode cc pc = .ok (.getfield idx, 3)) (kk : V x Z n0 k0 (pc + 3) L (va_rf (some b) :: rest) g) : V x Z n0 k0 pc L (va_rf (some a) :: rest) g := V_get (C := RX3) (T := TX3) (N := 2) (c := 2) (k := 0) hC rfl rfl inX3 hz (by omega) (by omega) hw (congrArg va_rf hb) hdg kk
theorem G2_1 (hC : Cx x cc own nL) {a idx : Nat} (hw : Cond.fieldLink own idx "ProvenanceTables$Line" "length" "I" ∈ TB) (hz : zk Z a = 3) (hdg : decode cc pc = .ok (.getfield idx, 3)) (kk : V x Z n0 k0 (pc + 3) L (.int (gI g a 1) :: rest) g) : V x Z n0 k0 pc L (va_rf (some a) :: rest) g := V_get (C := RX3) (T := TX3) (N := 2) (c := 2) (k := 1) hC rfl rfl inX3 hz (by omega) (by omega) hw rfl hdg kk
theorem P2_1 (hC : Cx x cc own nL) {a idx : Nat} {v : Int32} (hw : Cond.fieldLink own idx "ProvenanceTables$Line" "length" "I" ∈ TB) (hz : zk Z a = 3) (hA : ∀ q, zk Z q ≠ 0 → xA x q) (hdg : decode cc pc = .ok (.putfield idx, 3)) (kk : V x Z n0 k0 (pc + 3) L rest (sI g a 1 v)) : V x Z n0 k0 pc L (.int v :: va_rf (some a) :: rest) g := V_put (C := RX3) (T := TX3) (N := 2) (c := 2) (k := 1) (ty := .int) hC tyX3 rfl rfl inX3 tyX3_ok nmX3 hz (by omega) (by omega) hw rfl (by decide +kernel) rfl rfl (fun b c j hb => fvl_sI hb c j) (fun b t j hb => ev_sI hb t j) (fvl_putI rfl) hA hdg kk
theorem G3_0 (hC : Cx x cc own nL) {a idx b : Nat} (hw : Cond.fieldLink own idx "ProvenanceTables$Polynomial" "monomials" "[J" ∈ TB) (hz : zk Z a = 4) (hb : zf Z a 0 = some b) (hdg : decode cc pc = .ok (.getfield idx, 3)) (kk : V x Z n0 k0 (pc + 3) L (va_rf (some b) :: rest) g) : V x Z n0 k0 pc L (va_rf (some a) :: rest) g := V_get (C := RX5) (T := TX5) (N := 3) (c := 3) (k := 0) hC rfl rfl inX5 hz (by omega) (by omega) hw (congrArg va_rf hb) hdg kk
theorem G3_1 (hC : Cx x cc own nL) {a idx b : Nat} (hw : Cond.fieldLink own idx "ProvenanceTables$Polynomial" "factors" "[J" ∈ TB) (hz : zk Z a = 4) (hb : zf Z a 1 = some b) (hdg : decode cc pc = .ok (.getfield idx, 3)) (kk : V x Z n0 k0 (pc + 3) L (va_rf (some b) :: rest) g) : V x Z n0 k0 pc L (va_rf (some a) :: rest) g := V_get (C := RX5) (T := TX5) (N := 3) (c := 3) (k := 1) hC rfl rfl inX5 hz (by omega) (by omega) hw (congrArg va_rf hb) hdg kk
theorem G3_2 (hC : Cx x cc own nL) {a idx : Nat} (hw : Cond.fieldLink own idx "ProvenanceTables$Polynomial" "size" "I" ∈ TB) (hz : zk Z a = 4) (hdg : decode cc pc = .ok (.getfield idx, 3)) (kk : V x Z n0 k0 (pc + 3) L (.int (gI g a 2) :: rest) g) : V x Z n0 k0 pc L (va_rf (some a) :: rest) g := V_get (C := RX5) (T := TX5) (N := 3) (c := 3) (k := 2) hC rfl rfl inX5 hz (by omega) (by omega) hw rfl hdg kk
theorem P3_2 (hC : Cx x cc own nL) {a idx : Nat} {v : Int32} (hw : Cond.fieldLink own idx "ProvenanceTables$Polynomial" "size" "I" ∈ TB) (hz : zk Z a = 4) (hA : ∀ q, zk Z q ≠ 0 → xA x q) (hdg : decode cc pc = .ok (.putfield idx, 3)) (kk : V x Z n0 k0 (pc + 3) L rest (sI g a 2 v)) : V x Z n0 k0 pc L (.int v :: va_rf (some a) :: rest) g := V_put (C := RX5) (T := TX5) (N := 3) (c := 3) (k := 2) (ty := .int) hC tyX5 rfl rfl inX5 tyX5_ok nmX5 hz (by omega) (by omega) hw rfl (by decide +kernel) rfl rfl (fun b c j hb => fvl_sI hb c j) (fun b t j hb => ev_sI hb t j) (fvl_putI rfl) hA hdg kk
theorem G4_0 (hC : Cx x cc own nL) {a idx b : Nat} (hw : Cond.fieldLink own idx "ProvenanceTables$Query" "kinds" "[I" ∈ TB) (hz : zk Z a = 5) (hb : zf Z a 0 = some b) (hdg : decode cc pc = .ok (.getfield idx, 3)) (kk : V x Z n0 k0 (pc + 3) L (va_rf (some b) :: rest) g) : V x Z n0 k0 pc L (va_rf (some a) :: rest) g := V_get (C := RX6) (T := TX6) (N := 10) (c := 4) (k := 0) hC rfl rfl inX6 hz (by omega) (by omega) hw (congrArg va_rf hb) hdg kk
theorem G4_1 (hC : Cx x cc own nL) {a idx b : Nat} (hw : Cond.fieldLink own idx "ProvenanceTables$Query" "firsts" "[I" ∈ TB) (hz : zk Z a = 5) (hb : zf Z a 1 = some b) (hdg : decode cc pc = .ok (.getfield idx, 3)) (kk : V x Z n0 k0 (pc + 3) L (va_rf (some b) :: rest) g) : V x Z n0 k0 pc L (va_rf (some a) :: rest) g := V_get (C := RX6) (T := TX6) (N := 10) (c := 4) (k := 1) hC rfl rfl inX6 hz (by omega) (by omega) hw (congrArg va_rf hb) hdg kk
theorem G4_2 (hC : Cx x cc own nL) {a idx b : Nat} (hw : Cond.fieldLink own idx "ProvenanceTables$Query" "seconds" "[I" ∈ TB) (hz : zk Z a = 5) (hb : zf Z a 2 = some b) (hdg : decode cc pc = .ok (.getfield idx, 3)) (kk : V x Z n0 k0 (pc + 3) L (va_rf (some b) :: rest) g) : V x Z n0 k0 pc L (va_rf (some a) :: rest) g := V_get (C := RX6) (T := TX6) (N := 10) (c := 4) (k := 2) hC rfl rfl inX6 hz (by omega) (by omega) hw (congrArg va_rf hb) hdg kk
theorem G4_3 (hC : Cx x cc own nL) {a idx b : Nat} (hw : Cond.fieldLink own idx "ProvenanceTables$Query" "widthStack" "[I" ∈ TB) (hz : zk Z a = 5) (hb : zf Z a 3 = some b) (hdg : decode cc pc = .ok (.getfield idx, 3)) (kk : V x Z n0 k0 (pc + 3) L (va_rf (some b) :: rest) g) : V x Z n0 k0 pc L (va_rf (some a) :: rest) g := V_get (C := RX6) (T := TX6) (N := 10) (c := 4) (k := 3) hC rfl rfl inX6 hz (by omega) (by omega) hw (congrArg va_rf hb) hdg kk
theorem G4_4 (hC : Cx x cc own nL) {a idx b : Nat} (hw : Cond.fieldLink own idx "ProvenanceTables$Query" "due" "[C" ∈ TB) (hz : zk Z a = 5) (hb : zf Z a 4 = some b) (hdg : decode cc pc = .ok (.getfield idx, 3)) (kk : V x Z n0 k0 (pc + 3) L (va_rf (some b) :: rest) g) : V x Z n0 k0 pc L (va_rf (some a) :: rest) g := V_get (C := RX6) (T := TX6) (N := 10) (c := 4) (k := 4) hC rfl rfl inX6 hz (by omega) (by omega) hw (congrArg va_rf hb) hdg kk
theorem G4_5 (hC : Cx x cc own nL) {a idx : Nat} {u : Option Nat} (hw : Cond.fieldLink own idx "ProvenanceTables$Query" "line" "LProvenanceTables$Line;" ∈ TB) (hz : zk Z a = 5) (hu : u = gP g a 5) (hdg : decode cc pc = .ok (.getfield idx, 3)) (kk : V x Z n0 k0 (pc + 3) L (va_rf u :: rest) g) : V x Z n0 k0 pc L (va_rf (some a) :: rest) g := V_get (C := RX6) (T := TX6) (N := 10) (c := 4) (k := 5) hC rfl rfl inX6 hz (by omega) (by omega) hw (congrArg va_rf hu.symm) hdg kk
theorem P4_5 (hC : Cx x cc own nL) {a idx : Nat} {v : Option Nat} (hw : Cond.fieldLink own idx "ProvenanceTables$Query" "line" "LProvenanceTables$Line;" ∈ TB) (hz : zk Z a = 5) (hA : ∀ q, zk Z q ≠ 0 → xA x q) (hdg : decode cc pc = .ok (.putfield idx, 3)) (kk : V x Z n0 k0 (pc + 3) L rest (sP g a 5 v)) : V x Z n0 k0 pc L (va_rf v :: va_rf (some a) :: rest) g := V_put (C := RX6) (T := TX6) (N := 10) (c := 4) (k := 5) (ty := .object "ProvenanceTables$Line") hC tyX6 rfl rfl inX6 tyX6_ok nmX6 hz (by omega) (by omega) hw rfl (by decide +kernel) (rf_nar _ _) (rf_fits _ _) (fun b c j hb => fvl_sP hb c j) (fun b t j hb => ev_sP hb t j) (fvl_putP rfl) hA hdg kk
theorem G4_6 (hC : Cx x cc own nL) {a idx : Nat} (hw : Cond.fieldLink own idx "ProvenanceTables$Query" "size" "I" ∈ TB) (hz : zk Z a = 5) (hdg : decode cc pc = .ok (.getfield idx, 3)) (kk : V x Z n0 k0 (pc + 3) L (.int (gI g a 6) :: rest) g) : V x Z n0 k0 pc L (va_rf (some a) :: rest) g := V_get (C := RX6) (T := TX6) (N := 10) (c := 4) (k := 6) hC rfl rfl inX6 hz (by omega) (by omega) hw rfl hdg kk
theorem P4_6 (hC : Cx x cc own nL) {a idx : Nat} {v : Int32} (hw : Cond.fieldLink own idx "ProvenanceTables$Query" "size" "I" ∈ TB) (hz : zk Z a = 5) (hA : ∀ q, zk Z q ≠ 0 → xA x q) (hdg : decode cc pc = .ok (.putfield idx, 3)) (kk : V x Z n0 k0 (pc + 3) L rest (sI g a 6 v)) : V x Z n0 k0 pc L (.int v :: va_rf (some a) :: rest) g := V_put (C := RX6) (T := TX6) (N := 10) (c := 4) (k := 6) (ty := .int) hC tyX6 rfl rfl inX6 tyX6_ok nmX6 hz (by omega) (by omega) hw rfl (by decide +kernel) rfl rfl (fun b c j hb => fvl_sI hb c j) (fun b t j hb => ev_sI hb t j) (fvl_putI rfl) hA hdg kk
theorem G4_7 (hC : Cx x cc own nL) {a idx : Nat} (hw : Cond.fieldLink own idx "ProvenanceTables$Query" "at" "I" ∈ TB) (hz : zk Z a = 5) (hdg : decode cc pc = .ok (.getfield idx, 3)) (kk : V x Z n0 k0 (pc + 3) L (.int (gI g a 7) :: rest) g) : V x Z n0 k0 pc L (va_rf (some a) :: rest) g := V_get (C := RX6) (T := TX6) (N := 10) (c := 4) (k := 7) hC rfl rfl inX6 hz (by omega) (by omega) hw rfl hdg kk
theorem P4_7 (hC : Cx x cc own nL) {a idx : Nat} {v : Int32} (hw : Cond.fieldLink own idx "ProvenanceTables$Query" "at" "I" ∈ TB) (hz : zk Z a = 5) (hA : ∀ q, zk Z q ≠ 0 → xA x q) (hdg : decode cc pc = .ok (.putfield idx, 3)) (kk : V x Z n0 k0 (pc + 3) L rest (sI g a 7 v)) : V x Z n0 k0 pc L (.int v :: va_rf (some a) :: rest) g := V_put (C := RX6) (T := TX6) (N := 10) (c := 4) (k := 7) (ty := .int) hC tyX6 rfl rfl inX6 tyX6_ok nmX6 hz (by omega) (by omega) hw rfl (by decide +kernel) rfl rfl (fun b c j hb => fvl_sI hb c j) (fun b t j hb => ev_sI hb t j) (fvl_putI rfl) hA hdg kk
theorem G4_8 (hC : Cx x cc own nL) {a idx : Nat} (hw : Cond.fieldLink own idx "ProvenanceTables$Query" "dueCount" "I" ∈ TB) (hz : zk Z a = 5) (hdg : decode cc pc = .ok (.getfield idx, 3)) (kk : V x Z n0 k0 (pc + 3) L (.int (gI g a 8) :: rest) g) : V x Z n0 k0 pc L (va_rf (some a) :: rest) g := V_get (C := RX6) (T := TX6) (N := 10) (c := 4) (k := 8) hC rfl rfl inX6 hz (by omega) (by omega) hw rfl hdg kk
theorem P4_8 (hC : Cx x cc own nL) {a idx : Nat} {v : Int32} (hw : Cond.fieldLink own idx "ProvenanceTables$Query" "dueCount" "I" ∈ TB) (hz : zk Z a = 5) (hA : ∀ q, zk Z q ≠ 0 → xA x q) (hdg : decode cc pc = .ok (.putfield idx, 3)) (kk : V x Z n0 k0 (pc + 3) L rest (sI g a 8 v)) : V x Z n0 k0 pc L (.int v :: va_rf (some a) :: rest) g := V_put (C := RX6) (T := TX6) (N := 10) (c := 4) (k := 8) (ty := .int) hC tyX6 rfl rfl inX6 tyX6_ok nmX6 hz (by omega) (by omega) hw rfl (by decide +kernel) rfl rfl (fun b c j hb => fvl_sI hb c j) (fun b t j hb => ev_sI hb t j) (fvl_putI rfl) hA hdg kk
theorem G4_9 (hC : Cx x cc own nL) {a idx : Nat} (hw : Cond.fieldLink own idx "ProvenanceTables$Query" "isWhole" "Z" ∈ TB) (hz : zk Z a = 5) (hdg : decode cc pc = .ok (.getfield idx, 3)) (kk : V x Z n0 k0 (pc + 3) L (.int (gI g a 9) :: rest) g) : V x Z n0 k0 pc L (va_rf (some a) :: rest) g := V_get (C := RX6) (T := TX6) (N := 10) (c := 4) (k := 9) hC rfl rfl inX6 hz (by omega) (by omega) hw rfl hdg kk
theorem P4_9 (hC : Cx x cc own nL) {a idx : Nat} {v : Int32} (hw : Cond.fieldLink own idx "ProvenanceTables$Query" "isWhole" "Z" ∈ TB) (hz : zk Z a = 5) (hv : isz v) (hA : ∀ q, zk Z q ≠ 0 → xA x q) (hdg : decode cc pc = .ok (.putfield idx, 3)) (kk : V x Z n0 k0 (pc + 3) L rest (sI g a 9 v)) : V x Z n0 k0 pc L (.int v :: va_rf (some a) :: rest) g := V_put (C := RX6) (T := TX6) (N := 10) (c := 4) (k := 9) (ty := .boolean) hC tyX6 rfl rfl inX6 tyX6_ok nmX6 hz (by omega) (by omega) hw rfl (by decide +kernel) (isz_nar hv) (isz_fits hv) (fun b c j hb => fvl_sI hb c j) (fun b t j hb => ev_sI hb t j) (fvl_putI rfl) hA hdg kk
theorem G5_0 (hC : Cx x cc own nL) {a idx b : Nat} (hw : Cond.fieldLink own idx "ProvenanceTables$Relation" "keys" "[I" ∈ TB) (hz : zk Z a = 6) (hb : zf Z a 0 = some b) (hdg : decode cc pc = .ok (.getfield idx, 3)) (kk : V x Z n0 k0 (pc + 3) L (va_rf (some b) :: rest) g) : V x Z n0 k0 pc L (va_rf (some a) :: rest) g := V_get (C := RX7) (T := TX7) (N := 4) (c := 5) (k := 0) hC rfl rfl inX7 hz (by omega) (by omega) hw (congrArg va_rf hb) hdg kk
theorem G5_1 (hC : Cx x cc own nL) {a idx b : Nat} (hw : Cond.fieldLink own idx "ProvenanceTables$Relation" "polynomials" "[LProvenanceTables$Polynomial;" ∈ TB) (hz : zk Z a = 6) (hb : zf Z a 1 = some b) (hdg : decode cc pc = .ok (.getfield idx, 3)) (kk : V x Z n0 k0 (pc + 3) L (va_rf (some b) :: rest) g) : V x Z n0 k0 pc L (va_rf (some a) :: rest) g := V_get (C := RX7) (T := TX7) (N := 4) (c := 5) (k := 1) hC rfl rfl inX7 hz (by omega) (by omega) hw (congrArg va_rf hb) hdg kk
theorem G5_2 (hC : Cx x cc own nL) {a idx : Nat} (hw : Cond.fieldLink own idx "ProvenanceTables$Relation" "width" "I" ∈ TB) (hz : zk Z a = 6) (hdg : decode cc pc = .ok (.getfield idx, 3)) (kk : V x Z n0 k0 (pc + 3) L (.int (gI g a 2) :: rest) g) : V x Z n0 k0 pc L (va_rf (some a) :: rest) g := V_get (C := RX7) (T := TX7) (N := 4) (c := 5) (k := 2) hC rfl rfl inX7 hz (by omega) (by omega) hw rfl hdg kk
theorem P5_2 (hC : Cx x cc own nL) {a idx : Nat} {v : Int32} (hw : Cond.fieldLink own idx "ProvenanceTables$Relation" "width" "I" ∈ TB) (hz : zk Z a = 6) (hA : ∀ q, zk Z q ≠ 0 → xA x q) (hdg : decode cc pc = .ok (.putfield idx, 3)) (kk : V x Z n0 k0 (pc + 3) L rest (sI g a 2 v)) : V x Z n0 k0 pc L (.int v :: va_rf (some a) :: rest) g := V_put (C := RX7) (T := TX7) (N := 4) (c := 5) (k := 2) (ty := .int) hC tyX7 rfl rfl inX7 tyX7_ok nmX7 hz (by omega) (by omega) hw rfl (by decide +kernel) rfl rfl (fun b c j hb => fvl_sI hb c j) (fun b t j hb => ev_sI hb t j) (fvl_putI rfl) hA hdg kk
theorem G5_3 (hC : Cx x cc own nL) {a idx : Nat} (hw : Cond.fieldLink own idx "ProvenanceTables$Relation" "size" "I" ∈ TB) (hz : zk Z a = 6) (hdg : decode cc pc = .ok (.getfield idx, 3)) (kk : V x Z n0 k0 (pc + 3) L (.int (gI g a 3) :: rest) g) : V x Z n0 k0 pc L (va_rf (some a) :: rest) g := V_get (C := RX7) (T := TX7) (N := 4) (c := 5) (k := 3) hC rfl rfl inX7 hz (by omega) (by omega) hw rfl hdg kk
theorem P5_3 (hC : Cx x cc own nL) {a idx : Nat} {v : Int32} (hw : Cond.fieldLink own idx "ProvenanceTables$Relation" "size" "I" ∈ TB) (hz : zk Z a = 6) (hA : ∀ q, zk Z q ≠ 0 → xA x q) (hdg : decode cc pc = .ok (.putfield idx, 3)) (kk : V x Z n0 k0 (pc + 3) L rest (sI g a 3 v)) : V x Z n0 k0 pc L (.int v :: va_rf (some a) :: rest) g := V_put (C := RX7) (T := TX7) (N := 4) (c := 5) (k := 3) (ty := .int) hC tyX7 rfl rfl inX7 tyX7_ok nmX7 hz (by omega) (by omega) hw rfl (by decide +kernel) rfl rfl (fun b c j hb => fvl_sI hb c j) (fun b t j hb => ev_sI hb t j) (fvl_putI rfl) hA hdg kk
theorem G6_0 (hC : Cx x cc own nL) {a idx b : Nat} (hw : Cond.fieldLink own idx "ProvenanceTables$State" "widths" "[I" ∈ TB) (hz : zk Z a = 7) (hb : zf Z a 0 = some b) (hdg : decode cc pc = .ok (.getfield idx, 3)) (kk : V x Z n0 k0 (pc + 3) L (va_rf (some b) :: rest) g) : V x Z n0 k0 pc L (va_rf (some a) :: rest) g := V_get (C := RX8) (T := TX8) (N := 8) (c := 6) (k := 0) hC rfl rfl inX8 hz (by omega) (by omega) hw (congrArg va_rf hb) hdg kk
theorem G6_1 (hC : Cx x cc own nL) {a idx b : Nat} (hw : Cond.fieldLink own idx "ProvenanceTables$State" "tables" "[I" ∈ TB) (hz : zk Z a = 7) (hb : zf Z a 1 = some b) (hdg : decode cc pc = .ok (.getfield idx, 3)) (kk : V x Z n0 k0 (pc + 3) L (va_rf (some b) :: rest) g) : V x Z n0 k0 pc L (va_rf (some a) :: rest) g := V_get (C := RX8) (T := TX8) (N := 8) (c := 6) (k := 1) hC rfl rfl inX8 hz (by omega) (by omega) hw (congrArg va_rf hb) hdg kk
theorem G6_2 (hC : Cx x cc own nL) {a idx b : Nat} (hw : Cond.fieldLink own idx "ProvenanceTables$State" "keys" "[I" ∈ TB) (hz : zk Z a = 7) (hb : zf Z a 2 = some b) (hdg : decode cc pc = .ok (.getfield idx, 3)) (kk : V x Z n0 k0 (pc + 3) L (va_rf (some b) :: rest) g) : V x Z n0 k0 pc L (va_rf (some a) :: rest) g := V_get (C := RX8) (T := TX8) (N := 8) (c := 6) (k := 2) hC rfl rfl inX8 hz (by omega) (by omega) hw (congrArg va_rf hb) hdg kk
theorem G6_3 (hC : Cx x cc own nL) {a idx b : Nat} (hw : Cond.fieldLink own idx "ProvenanceTables$State" "costs" "[I" ∈ TB) (hz : zk Z a = 7) (hb : zf Z a 3 = some b) (hdg : decode cc pc = .ok (.getfield idx, 3)) (kk : V x Z n0 k0 (pc + 3) L (va_rf (some b) :: rest) g) : V x Z n0 k0 pc L (va_rf (some a) :: rest) g := V_get (C := RX8) (T := TX8) (N := 8) (c := 6) (k := 3) hC rfl rfl inX8 hz (by omega) (by omega) hw (congrArg va_rf hb) hdg kk
theorem G6_4 (hC : Cx x cc own nL) {a idx b : Nat} (hw : Cond.fieldLink own idx "ProvenanceTables$State" "trusts" "[I" ∈ TB) (hz : zk Z a = 7) (hb : zf Z a 4 = some b) (hdg : decode cc pc = .ok (.getfield idx, 3)) (kk : V x Z n0 k0 (pc + 3) L (va_rf (some b) :: rest) g) : V x Z n0 k0 pc L (va_rf (some a) :: rest) g := V_get (C := RX8) (T := TX8) (N := 8) (c := 6) (k := 4) hC rfl rfl inX8 hz (by omega) (by omega) hw (congrArg va_rf hb) hdg kk
theorem G6_5 (hC : Cx x cc own nL) {a idx b : Nat} (hw : Cond.fieldLink own idx "ProvenanceTables$State" "queryLine" "LProvenanceTables$Line;" ∈ TB) (hz : zk Z a = 7) (hb : zf Z a 5 = some b) (hdg : decode cc pc = .ok (.getfield idx, 3)) (kk : V x Z n0 k0 (pc + 3) L (va_rf (some b) :: rest) g) : V x Z n0 k0 pc L (va_rf (some a) :: rest) g := V_get (C := RX8) (T := TX8) (N := 8) (c := 6) (k := 5) hC rfl rfl inX8 hz (by omega) (by omega) hw (congrArg va_rf hb) hdg kk
theorem G6_6 (hC : Cx x cc own nL) {a idx : Nat} (hw : Cond.fieldLink own idx "ProvenanceTables$State" "tagMask" "I" ∈ TB) (hz : zk Z a = 7) (hdg : decode cc pc = .ok (.getfield idx, 3)) (kk : V x Z n0 k0 (pc + 3) L (.int (gI g a 6) :: rest) g) : V x Z n0 k0 pc L (va_rf (some a) :: rest) g := V_get (C := RX8) (T := TX8) (N := 8) (c := 6) (k := 6) hC rfl rfl inX8 hz (by omega) (by omega) hw rfl hdg kk
theorem P6_6 (hC : Cx x cc own nL) {a idx : Nat} {v : Int32} (hw : Cond.fieldLink own idx "ProvenanceTables$State" "tagMask" "I" ∈ TB) (hz : zk Z a = 7) (hA : ∀ q, zk Z q ≠ 0 → xA x q) (hdg : decode cc pc = .ok (.putfield idx, 3)) (kk : V x Z n0 k0 (pc + 3) L rest (sI g a 6 v)) : V x Z n0 k0 pc L (.int v :: va_rf (some a) :: rest) g := V_put (C := RX8) (T := TX8) (N := 8) (c := 6) (k := 6) (ty := .int) hC tyX8 rfl rfl inX8 tyX8_ok nmX8 hz (by omega) (by omega) hw rfl (by decide +kernel) rfl rfl (fun b c j hb => fvl_sI hb c j) (fun b t j hb => ev_sI hb t j) (fvl_putI rfl) hA hdg kk
theorem G6_7 (hC : Cx x cc own nL) {a idx : Nat} (hw : Cond.fieldLink own idx "ProvenanceTables$State" "withdrawnMask" "I" ∈ TB) (hz : zk Z a = 7) (hdg : decode cc pc = .ok (.getfield idx, 3)) (kk : V x Z n0 k0 (pc + 3) L (.int (gI g a 7) :: rest) g) : V x Z n0 k0 pc L (va_rf (some a) :: rest) g := V_get (C := RX8) (T := TX8) (N := 8) (c := 6) (k := 7) hC rfl rfl inX8 hz (by omega) (by omega) hw rfl hdg kk
theorem P6_7 (hC : Cx x cc own nL) {a idx : Nat} {v : Int32} (hw : Cond.fieldLink own idx "ProvenanceTables$State" "withdrawnMask" "I" ∈ TB) (hz : zk Z a = 7) (hA : ∀ q, zk Z q ≠ 0 → xA x q) (hdg : decode cc pc = .ok (.putfield idx, 3)) (kk : V x Z n0 k0 (pc + 3) L rest (sI g a 7 v)) : V x Z n0 k0 pc L (.int v :: va_rf (some a) :: rest) g := V_put (C := RX8) (T := TX8) (N := 8) (c := 6) (k := 7) (ty := .int) hC tyX8 rfl rfl inX8 tyX8_ok nmX8 hz (by omega) (by omega) hw rfl (by decide +kernel) rfl rfl (fun b c j hb => fvl_sI hb c j) (fun b t j hb => ev_sI hb t j) (fvl_putI rfl) hA hdg kk
theorem G7_0 (hC : Cx x cc own nL) {a idx b : Nat} (hw : Cond.fieldLink own idx "ProvenanceTables$TagSets" "sets" "[I" ∈ TB) (hz : zk Z a = 8) (hb : zf Z a 0 = some b) (hdg : decode cc pc = .ok (.getfield idx, 3)) (kk : V x Z n0 k0 (pc + 3) L (va_rf (some b) :: rest) g) : V x Z n0 k0 pc L (va_rf (some a) :: rest) g := V_get (C := RX9) (T := TX9) (N := 4) (c := 7) (k := 0) hC rfl rfl inX9 hz (by omega) (by omega) hw (congrArg va_rf hb) hdg kk
theorem G7_1 (hC : Cx x cc own nL) {a idx b : Nat} (hw : Cond.fieldLink own idx "ProvenanceTables$TagSets" "users" "[I" ∈ TB) (hz : zk Z a = 8) (hb : zf Z a 1 = some b) (hdg : decode cc pc = .ok (.getfield idx, 3)) (kk : V x Z n0 k0 (pc + 3) L (va_rf (some b) :: rest) g) : V x Z n0 k0 pc L (va_rf (some a) :: rest) g := V_get (C := RX9) (T := TX9) (N := 4) (c := 7) (k := 1) hC rfl rfl inX9 hz (by omega) (by omega) hw (congrArg va_rf hb) hdg kk
theorem G7_2 (hC : Cx x cc own nL) {a idx b : Nat} (hw : Cond.fieldLink own idx "ProvenanceTables$TagSets" "endings" "[I" ∈ TB) (hz : zk Z a = 8) (hb : zf Z a 2 = some b) (hdg : decode cc pc = .ok (.getfield idx, 3)) (kk : V x Z n0 k0 (pc + 3) L (va_rf (some b) :: rest) g) : V x Z n0 k0 pc L (va_rf (some a) :: rest) g := V_get (C := RX9) (T := TX9) (N := 4) (c := 7) (k := 2) hC rfl rfl inX9 hz (by omega) (by omega) hw (congrArg va_rf hb) hdg kk
theorem G7_3 (hC : Cx x cc own nL) {a idx : Nat} (hw : Cond.fieldLink own idx "ProvenanceTables$TagSets" "size" "I" ∈ TB) (hz : zk Z a = 8) (hdg : decode cc pc = .ok (.getfield idx, 3)) (kk : V x Z n0 k0 (pc + 3) L (.int (gI g a 3) :: rest) g) : V x Z n0 k0 pc L (va_rf (some a) :: rest) g := V_get (C := RX9) (T := TX9) (N := 4) (c := 7) (k := 3) hC rfl rfl inX9 hz (by omega) (by omega) hw rfl hdg kk
theorem P7_3 (hC : Cx x cc own nL) {a idx : Nat} {v : Int32} (hw : Cond.fieldLink own idx "ProvenanceTables$TagSets" "size" "I" ∈ TB) (hz : zk Z a = 8) (hA : ∀ q, zk Z q ≠ 0 → xA x q) (hdg : decode cc pc = .ok (.putfield idx, 3)) (kk : V x Z n0 k0 (pc + 3) L rest (sI g a 3 v)) : V x Z n0 k0 pc L (.int v :: va_rf (some a) :: rest) g := V_put (C := RX9) (T := TX9) (N := 4) (c := 7) (k := 3) (ty := .int) hC tyX9 rfl rfl inX9 tyX9_ok nmX9 hz (by omega) (by omega) hw rfl (by decide +kernel) rfl rfl (fun b c j hb => fvl_sI hb c j) (fun b t j hb => ev_sI hb t j) (fvl_putI rfl) hA hdg kk
theorem G8_0 (hC : Cx x cc own nL) {a idx b : Nat} (hw : Cond.fieldLink own idx "ProvenanceTables" "state" "LProvenanceTables$State;" ∈ TB) (hz : zk Z a = 9) (hb : zf Z a 0 = some b) (hdg : decode cc pc = .ok (.getfield idx, 3)) (kk : V x Z n0 k0 (pc + 3) L (va_rf (some b) :: rest) g) : V x Z n0 k0 pc L (va_rf (some a) :: rest) g := V_get (C := RX10) (T := TX10) (N := 10) (c := 8) (k := 0) hC rfl rfl inX10 hz (by omega) (by omega) hw (congrArg va_rf hb) hdg kk
theorem G8_1 (hC : Cx x cc own nL) {a idx b : Nat} (hw : Cond.fieldLink own idx "ProvenanceTables" "trial" "LProvenanceTables$State;" ∈ TB) (hz : zk Z a = 9) (hb : zf Z a 1 = some b) (hdg : decode cc pc = .ok (.getfield idx, 3)) (kk : V x Z n0 k0 (pc + 3) L (va_rf (some b) :: rest) g) : V x Z n0 k0 pc L (va_rf (some a) :: rest) g := V_get (C := RX10) (T := TX10) (N := 10) (c := 8) (k := 1) hC rfl rfl inX10 hz (by omega) (by omega) hw (congrArg va_rf hb) hdg kk
theorem G8_2 (hC : Cx x cc own nL) {a idx b : Nat} (hw : Cond.fieldLink own idx "ProvenanceTables" "history" "LProvenanceTables$History;" ∈ TB) (hz : zk Z a = 9) (hb : zf Z a 2 = some b) (hdg : decode cc pc = .ok (.getfield idx, 3)) (kk : V x Z n0 k0 (pc + 3) L (va_rf (some b) :: rest) g) : V x Z n0 k0 pc L (va_rf (some a) :: rest) g := V_get (C := RX10) (T := TX10) (N := 10) (c := 8) (k := 2) hC rfl rfl inX10 hz (by omega) (by omega) hw (congrArg va_rf hb) hdg kk
theorem G8_3 (hC : Cx x cc own nL) {a idx b : Nat} (hw : Cond.fieldLink own idx "ProvenanceTables" "text" "LProvenanceTables$Line;" ∈ TB) (hz : zk Z a = 9) (hb : zf Z a 3 = some b) (hdg : decode cc pc = .ok (.getfield idx, 3)) (kk : V x Z n0 k0 (pc + 3) L (va_rf (some b) :: rest) g) : V x Z n0 k0 pc L (va_rf (some a) :: rest) g := V_get (C := RX10) (T := TX10) (N := 10) (c := 8) (k := 3) hC rfl rfl inX10 hz (by omega) (by omega) hw (congrArg va_rf hb) hdg kk
theorem G8_4 (hC : Cx x cc own nL) {a idx b : Nat} (hw : Cond.fieldLink own idx "ProvenanceTables" "paper" "LProvenanceTables$Line;" ∈ TB) (hz : zk Z a = 9) (hb : zf Z a 4 = some b) (hdg : decode cc pc = .ok (.getfield idx, 3)) (kk : V x Z n0 k0 (pc + 3) L (va_rf (some b) :: rest) g) : V x Z n0 k0 pc L (va_rf (some a) :: rest) g := V_get (C := RX10) (T := TX10) (N := 10) (c := 8) (k := 4) hC rfl rfl inX10 hz (by omega) (by omega) hw (congrArg va_rf hb) hdg kk
theorem G8_5 (hC : Cx x cc own nL) {a idx b : Nat} (hw : Cond.fieldLink own idx "ProvenanceTables" "draft" "LProvenanceTables$Query;" ∈ TB) (hz : zk Z a = 9) (hb : zf Z a 5 = some b) (hdg : decode cc pc = .ok (.getfield idx, 3)) (kk : V x Z n0 k0 (pc + 3) L (va_rf (some b) :: rest) g) : V x Z n0 k0 pc L (va_rf (some a) :: rest) g := V_get (C := RX10) (T := TX10) (N := 10) (c := 8) (k := 5) hC rfl rfl inX10 hz (by omega) (by omega) hw (congrArg va_rf hb) hdg kk
theorem G8_6 (hC : Cx x cc own nL) {a idx b : Nat} (hw : Cond.fieldLink own idx "ProvenanceTables" "current" "LProvenanceTables$Query;" ∈ TB) (hz : zk Z a = 9) (hb : zf Z a 6 = some b) (hdg : decode cc pc = .ok (.getfield idx, 3)) (kk : V x Z n0 k0 (pc + 3) L (va_rf (some b) :: rest) g) : V x Z n0 k0 pc L (va_rf (some a) :: rest) g := V_get (C := RX10) (T := TX10) (N := 10) (c := 8) (k := 6) hC rfl rfl inX10 hz (by omega) (by omega) hw (congrArg va_rf hb) hdg kk
theorem G8_7 (hC : Cx x cc own nL) {a idx b : Nat} (hw : Cond.fieldLink own idx "ProvenanceTables" "evaluator" "LProvenanceTables$Evaluator;" ∈ TB) (hz : zk Z a = 9) (hb : zf Z a 7 = some b) (hdg : decode cc pc = .ok (.getfield idx, 3)) (kk : V x Z n0 k0 (pc + 3) L (va_rf (some b) :: rest) g) : V x Z n0 k0 pc L (va_rf (some a) :: rest) g := V_get (C := RX10) (T := TX10) (N := 10) (c := 8) (k := 7) hC rfl rfl inX10 hz (by omega) (by omega) hw (congrArg va_rf hb) hdg kk
theorem G8_8 (hC : Cx x cc own nL) {a idx b : Nat} (hw : Cond.fieldLink own idx "ProvenanceTables" "shown" "LProvenanceTables$Polynomial;" ∈ TB) (hz : zk Z a = 9) (hb : zf Z a 8 = some b) (hdg : decode cc pc = .ok (.getfield idx, 3)) (kk : V x Z n0 k0 (pc + 3) L (va_rf (some b) :: rest) g) : V x Z n0 k0 pc L (va_rf (some a) :: rest) g := V_get (C := RX10) (T := TX10) (N := 10) (c := 8) (k := 8) hC rfl rfl inX10 hz (by omega) (by omega) hw (congrArg va_rf hb) hdg kk
theorem G8_9 (hC : Cx x cc own nL) {a idx b : Nat} (hw : Cond.fieldLink own idx "ProvenanceTables" "tagSets" "LProvenanceTables$TagSets;" ∈ TB) (hz : zk Z a = 9) (hb : zf Z a 9 = some b) (hdg : decode cc pc = .ok (.getfield idx, 3)) (kk : V x Z n0 k0 (pc + 3) L (va_rf (some b) :: rest) g) : V x Z n0 k0 pc L (va_rf (some a) :: rest) g := V_get (C := RX10) (T := TX10) (N := 10) (c := 8) (k := 9) hC rfl rfl inX10 hz (by omega) (by omega) hw (congrArg va_rf hb) hdg kk
end MORE
section FLOATS
abbrev nn32 (r : UInt32) : Prop := r &&& 0x7fffffff ≤ 0x7f800000
abbrev nn64 (r : UInt64) : Prop := r &&& 0x7fffffffffffffff ≤ 0x7ff0000000000000
theorem lw_ldcwF {p : Program} {l : Launch} {e : Env} {R : Room} {s : State} {m : MethodId} {args : Array Value} {below : List Frame} {meth : Method} {c : Code} {H : Heap} {locs : List Loc} {cells slots : Nat} {Q : State → Prop} {cc : ByteArray} {pc : Nat} {ls : Array Slot} {rest : List Value}
    (hexec : p.tables.exec = Jvm.exec) (hb : c.code = cc) {own : String} {index : Nat} {v : UInt32} (hown : s.vm.findClass own = some m.cls) (hconst : (Jvm.Cond.constantFloat own index v).before args s = true) (hdg : decode cc pc = .ok (.ldc_w index, 3)) (k : W p l e R s m args below meth c H locs cells slots Q (F0 m (pc + 3) ls (.float v :: rest))) : W p l e R s m args below meth c H locs cells slots Q (F0 m pc ls rest) := by
  intro T hT X
  obtain ⟨t, a, b⟩ := k T hT X
  obtain ⟨k1, cf, hk, hcf, hcp⟩ := Cond.constantFloat_spec hown hconst
  obtain ⟨k', hk', he⟩ := X.warmed.alike.2.2 _ _ hk
  refine ⟨t, ?_, b⟩
  jvm_step X.here [hexec, hb, hdg, ldc_w.wp_float (s := T) (f := F0 m pc ls rest) X.here.top hk' (by rw [he]; exact hcf) hcp]
  exact a
variable {x : Cq} {Z : Zt} {n0 k0 pc : Nat} {L : List (Nat × Value)} {rest : List Value} {g : Mem} {cc : ByteArray} {own : String} {nL : Nat}
theorem V_fconst0 (hC : Cx x cc own nL) (hdg : decode cc pc = .ok (.fconst 0, 1)) (kk : V x Z n0 k0 (pc + 1) L (.float FP.fconst0 :: rest) g) : V x Z n0 k0 pc L rest g := fun H locs ls h1 h2 h3 => lv_fconst0 hC.x hC.b hdg (kk H locs ls h1 h2 h3)
theorem V_fconst1 (hC : Cx x cc own nL) (hdg : decode cc pc = .ok (.fconst 1, 1)) (kk : V x Z n0 k0 (pc + 1) L (.float FP.fconst1 :: rest) g) : V x Z n0 k0 pc L rest g := fun H locs ls h1 h2 h3 => lv_fconst1 hC.x hC.b hdg (kk H locs ls h1 h2 h3)
theorem V_ldcf (hC : Cx x cc own nL) {index : Nat} {v : UInt32} (hw : Cond.constantFloat own index v ∈ TB) (hdg : decode cc pc = .ok (.ldc index, 2)) (kk : V x Z n0 k0 (pc + 2) L (.float v :: rest) g) : V x Z n0 k0 pc L rest g := fun H locs ls h1 h2 h3 => lv_ldcf hC.x hC.b hC.o (hC.w _ hw) hdg (kk H locs ls h1 h2 h3)
theorem V_ldcwf (hC : Cx x cc own nL) {index : Nat} {v : UInt32} (hw : Cond.constantFloat own index v ∈ TB) (hdg : decode cc pc = .ok (.ldc_w index, 3)) (kk : V x Z n0 k0 (pc + 3) L (.float v :: rest) g) : V x Z n0 k0 pc L rest g := fun H locs ls h1 h2 h3 => lw_ldcwF hC.x hC.b hC.o (hC.w _ hw) hdg (kk H locs ls h1 h2 h3)
theorem V_i2f (hC : Cx x cc own nL) {a : Int32} (hdg : decode cc pc = .ok (.i2f, 1)) (kk : V x Z n0 k0 (pc + 1) L (.float (FP.i2f a) :: rest) g) : V x Z n0 k0 pc L (.int a :: rest) g := fun H locs ls h1 h2 h3 => lv_i2f hC.x hC.b hdg (kk H locs ls h1 h2 h3)
theorem V_fmul (hC : Cx x cc own nL) {a b : UInt32} (hne : nn32 (FP.fmul a b)) (hdg : decode cc pc = .ok (.fmul, 1)) (kk : V x Z n0 k0 (pc + 1) L (.float (FP.fmul a b) :: rest) g) : V x Z n0 k0 pc L (.float b :: .float a :: rest) g := fun H locs ls h1 h2 h3 => lv_fmul hC.x hC.b hdg hne (kk H locs ls h1 h2 h3)
theorem V_fdiv (hC : Cx x cc own nL) {a b : UInt32} (hne : nn32 (FP.fdiv a b)) (hdg : decode cc pc = .ok (.fdiv, 1)) (kk : V x Z n0 k0 (pc + 1) L (.float (FP.fdiv a b) :: rest) g) : V x Z n0 k0 pc L (.float b :: .float a :: rest) g := fun H locs ls h1 h2 h3 => lv_fdiv hC.x hC.b hdg hne (kk H locs ls h1 h2 h3)
theorem V_fcmpl (hC : Cx x cc own nL) {a b : UInt32} (hdg : decode cc pc = .ok (.fcmp .l, 1)) (kk : V x Z n0 k0 (pc + 1) L (.int (Op.cmpValue (FP.fcmp a b) .l) :: rest) g) : V x Z n0 k0 pc L (.float b :: .float a :: rest) g := fun H locs ls h1 h2 h3 => lv_fcmp hC.x hC.b hdg (kk H locs ls h1 h2 h3)
theorem V_f2d (hC : Cx x cc own nL) {a : UInt32} (hne : nn64 (FP.f2d a)) (hdg : decode cc pc = .ok (.f2d, 1)) (kk : V x Z n0 k0 (pc + 1) L (.double (FP.f2d a) :: rest) g) : V x Z n0 k0 pc L (.float a :: rest) g := fun H locs ls h1 h2 h3 => lv_f2d hC.x hC.b hdg hne (kk H locs ls h1 h2 h3)
theorem V_dcmpl (hC : Cx x cc own nL) {a b : UInt64} (hdg : decode cc pc = .ok (.dcmp .l, 1)) (kk : V x Z n0 k0 (pc + 1) L (.int (Op.cmpValue (FP.dcmp a b) .l) :: rest) g) : V x Z n0 k0 pc L (.double b :: .double a :: rest) g := fun H locs ls h1 h2 h3 => lv_dcmp hC.x hC.b hdg (kk H locs ls h1 h2 h3)
theorem V_dload (hC : Cx x cc own nL) {i : Nat} (j : Nat) {a : UInt64} (hdg : decode cc pc = .ok (.dload i, 2)) (hl : L[j]? = some (i, .double a)) (kk : V x Z n0 k0 (pc + 2) L (.double a :: rest) g) : V x Z n0 k0 pc L rest g := fun H locs ls h1 h2 h3 => lv_dload hC.x hC.b hdg (lv_at h1 j hl) (kk H locs ls h1 h2 h3)
theorem V_dstore (hC : Cx x cc own nL) {i : Nat} {a : UInt64} {L' : List (Nat × Value)} (hdg : decode cc pc = .ok (.dstore i, 2)) (hn : i + 1 < nL) (hl : (i, Value.double a) :: L.filter (fun q => !(q.1 == i) && (!(q.1 == i + 1) && !(q.1 + 1 == i && q.2.category == 2))) = L') (kk : V x Z n0 k0 (pc + 2) L' rest g) : V x Z n0 k0 pc L (.double a :: rest) g := fun H locs ls h1 h2 h3 => lv_dstore hC.x hC.b hdg h1 (by rw [hC.n]; exact hn) hl (fun ls' h' => kk H locs ls' h' h2 h3)
end FLOATS

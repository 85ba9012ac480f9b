/-! MAKING: objects and arrays at the next address; a constructor's contract says how many cells it makes, and the memory behind it -/
def nA (Z : Zt) (q k len : Nat) : Zt := (fun b => if b = q then k else Z.1 b, fun b => if b = q then len else Z.2.1 b, Z.2.2)
def nO (Z : Zt) (q c : Nat) : Zt := (fun b => if b = q then c + 1 else Z.1 b, Z.2.1, fun b j => if b = q then none else Z.2.2 b j)
def fZ (Z : Zt) (a k : Nat) (v : Option Nat) : Zt := (Z.1, Z.2.1, fun b j => if b = a ∧ j = k then v else Z.2.2 b j)
def zr (g : Mem) (q : Nat) : Mem := (fun b j => if b = q then 0 else g.1 b j, fun b j => if b = q then 0 else g.2.1 b j, fun b j => if b = q then none else g.2.2 b j)
theorem zk_nA (Z : Zt) (q k len b : Nat) : zk (nA Z q k len) b = if b = q then k else zk Z b := rfl
theorem zl_nA (Z : Zt) (q k len b : Nat) : zl (nA Z q k len) b = if b = q then len else zl Z b := rfl
theorem zf_nA (Z : Zt) (q k len b j : Nat) : zf (nA Z q k len) b j = zf Z b j := rfl
theorem zk_nO (Z : Zt) (q c b : Nat) : zk (nO Z q c) b = if b = q then c + 1 else zk Z b := rfl
theorem zl_nO (Z : Zt) (q c b : Nat) : zl (nO Z q c) b = zl Z b := rfl
theorem zf_nO (Z : Zt) (q c b j : Nat) : zf (nO Z q c) b j = if b = q then none else zf Z b j := rfl
theorem zk_fZ (Z : Zt) (a k b : Nat) (v : Option Nat) : zk (fZ Z a k v) b = zk Z b := rfl
theorem zl_fZ (Z : Zt) (a k b : Nat) (v : Option Nat) : zl (fZ Z a k v) b = zl Z b := rfl
theorem zf_fZ (Z : Zt) (a k b j : Nat) (v : Option Nat) : zf (fZ Z a k v) b j = if b = a ∧ j = k then v else zf Z b j := rfl
theorem gI_zr (g : Mem) (q b j : Nat) : gI (zr g q) b j = if b = q then 0 else gI g b j := rfl
theorem gJ_zr (g : Mem) (q b j : Nat) : gJ (zr g q) b j = if b = q then 0 else gJ g b j := rfl
theorem gP_zr (g : Mem) (q b j : Nat) : gP (zr g q) b j = if b = q then none else gP g b j := rfl
def Lv (x : Cq) (Z : Zt) : Prop := ∀ q, zk Z q ≠ 0 → xA x q
def Lh (x : Cq) : Prop := ∀ q, (xH x).size ≤ q → xA x q
theorem Lv.nO {x : Cq} {Z : Zt} {q c : Nat} (h : Lv x Z) (hB : Lh x) (hq : (xH x).size ≤ q) : Lv x (nO Z q c) := fun b hb => by
  by_cases e : b = q
  · subst e; exact hB _ hq
  · rw [zk_nO, if_neg e] at hb; exact h b hb
theorem Lv.nA {x : Cq} {Z : Zt} {q k len : Nat} (h : Lv x Z) (hB : Lh x) (hq : (xH x).size ≤ q) : Lv x (nA Z q k len) := fun b hb => by
  by_cases e : b = q
  · subst e; exact hB _ hq
  · rw [zk_nA, if_neg e] at hb; exact h b hb
theorem Lv.fZ {x : Cq} {Z : Zt} {a k : Nat} {v : Option Nat} (h : Lv x Z) : Lv x (fZ Z a k v) := fun b hb => h b hb
theorem HV.push {xC : Nat → ClassId} {xI : Nat → Nat → Nat} {xD : Nat → ClassId} {Z Z' : Zt} {g : Mem} {H H1 : Heap} {q : Nat} (h : HV xC xI xD Z g H) (hq : H.size = q) (o1 : ∀ b : Nat, b < H.size → H1[b]? = H[b]?)
    (hk : ∀ b, b ≠ q → zk Z' b = zk Z b) (hl : ∀ b, b ≠ q → zl Z' b = zl Z b) (hf : ∀ b j, b ≠ q → zf Z' b j = zf Z b j)
    (ho : ∀ c, c < 10 → zk Z' q = c + 1 → t_OB q (xC c) (nF c) (xI c) H1 (fvl Z' (zr g q) c q)) (hr : ∀ t, t < 7 → zk Z' q = t + 11 → H1[q]? = some (arrV (xD t) (zl Z' q) (ev t (zr g q) q))) : HV xC xI xD Z' (zr g q) H1 := by
  refine ⟨fun b c hc hb => ?_, fun b t ht hb => ?_⟩
  · by_cases hba : b = q
    · subst hba; exact ho c hc hb
    · rw [hk b hba] at hb
      have h1 := h.1 b c hc hb
      have hlt : b < H.size := by obtain ⟨cell, q1, -⟩ := h1; exact (Array.getElem?_eq_some_iff.mp q1).1
      exact (h1.kept (o1 b hlt)).to (fun k _ => by simp [fvl, hf b _ hba, gI_zr, gP_zr, hba])
  · by_cases hba : b = q
    · subst hba; exact hr t ht hb
    · rw [hk b hba] at hb
      have h1 := h.2 b t ht hb
      have hlt : b < H.size := (Array.getElem?_eq_some_iff.mp h1).1
      rw [o1 b hlt, h1, hl b hba]
      congr 2
      funext j
      simp [ev, gI_zr, gJ_zr, gP_zr, hba]
theorem HV.lt {xC : Nat → ClassId} {xI : Nat → Nat → Nat} {xD : Nat → ClassId} {Z : Zt} {g : Mem} {H : Heap} (h : HV xC xI xD Z g H) {a : Nat} (hz : zk Z a ≠ 0) (h18 : zk Z a < 18) : a < H.size := by
  by_cases h1 : zk Z a < 11
  · obtain ⟨cell, q1, -⟩ := h.1 a (zk Z a - 1) (by omega) (by omega)
    exact (Array.getElem?_eq_some_iff.mp q1).1
  · exact (Array.getElem?_eq_some_iff.mp (h.2 a (zk Z a - 11) (by omega) (by omega))).1
section INITROWS
variable {x : Cq} {Z : Zt} {n0 k0 pc : Nat} {L : List (Nat × Value)} {rest : List Value} {g : Mem} {cc : ByteArray} {own : String} {nL : Nat}
theorem V_new (hC : Cx x cc own nL) {C : String} {T : u_T} {N c q idx : Nat} (ty : Nat → FieldType) (hty : ∀ k, k < N → parseFieldDescriptor (T k).2.2.1 = some (ty k)) (hcl : vwCl[c]? = some (C, T, N)) (hN : nF c = N) (hc : c < 10) (hin : ∀ w ∈ u_ws C T N, w ∈ TB)
    (hw : Cond.classLink own idx C ∈ TB) (hi : Cond.instantiable C N ∈ TB) (hini : Cond.initialized C ∈ TB) (hdf : ∀ j, j < N → defaultValue (ty j) = if fc c j = 0 then .int 0 else .null) (hq : (xH x).size + n0 = q) (hr : n0 + 1 ≤ (xR x).cells ∧ k0 + N ≤ (xR x).slots) (hdg : decode cc pc = .ok (.new idx, 3))
    (kk : V x (nO Z q c) (n0 + 1) (k0 + N) (pc + 3) L (va_rf (some q) :: rest) (zr g q)) : V x Z n0 k0 pc L rest g := by
  intro H locs ls h1 h2 h3
  have hKn := hC.k.1 c _ hcl
  have hqs : H.size = q := h2.2.trans hq
  refine W.newcK hC.x hC.b hC.o (hC.w _ hw) (hC.w _ hi) (hC.w _ hini) rfl hdg hr.1 hr.2 hKn.2.1 hqs fun H1 kC hkC e1 z1 o1 => ?_
  refine kk H1 locs ls h1 ⟨h2.1.push hqs (by rw [hqs]; exact o1) (fun b hb => by rw [zk_nO, if_neg hb]) (fun b _ => rfl) (fun b j hb => by rw [zf_nO, if_neg hb]) ?_ ?_, by rw [z1, ← hq]; omega⟩ ⟨Nat.le_trans h3.1 (by omega), fun b h4 h5 => (o1 b (by rw [← hqs]; exact Nat.lt_of_lt_of_le h4 h3.1)).trans (h3.2.1 b h4 h5), h3.2.2⟩
  · intro c' hc' hz'
    rw [zk_nO, if_pos rfl] at hz'
    have : c' = c := by omega
    subst this
    rw [hN]
    refine (u_born ty hC.w hin hKn hkC e1 hty).to (fun j hj => ?_)
    rw [hdf j hj]
    by_cases h0 : fc c' j = 0
    · simp [fvl, h0, gI_zr]
    · simp [fvl, h0, zf_nO, gP_zr, va_rf]
  · intro t ht hz'
    rw [zk_nO, if_pos rfl] at hz'
    omega
theorem V_newa (hC : Cx x cc own nL) {atype : ArrayType} {ty : FieldType} {t q : Nat} {n : Int32} (hw : Cond.arrayClass (newarray.typeOf atype) ∈ TB) (hty : newarray.typeOf atype = ty) (ht : t < 7) (htl : (tyl (xD x))[t]? = some (xD x t, ty)) (hra : ∀ U cA, va_RA U cA ty → U.vm.findClass ("[" ++ ty.toString) = some cA) (hdf : ∀ (g : Mem) (q j : Nat), ev t (zr g q) q j = defaultValue ty) (hcb : componentBytes ty ≤ 8)
    (hn : ¬ n < 0 ∧ n.toNatClampNeg ≤ 65536) (hq : (xH x).size + n0 = q) (hr : n0 + 1 ≤ (xR x).cells ∧ k0 + n.toNatClampNeg ≤ (xR x).slots) (hdg : decode cc pc = .ok (.newarray atype, 2))
    (kk : V x (nA Z q (t + 11) n.toNatClampNeg) (n0 + 1) (k0 + n.toNatClampNeg) (pc + 2) L (va_rf (some q) :: rest) (zr g q)) : V x Z n0 k0 pc L (.int n :: rest) g := by
  intro H locs ls h1 h2 h3
  subst hty
  have hqs : H.size = q := h2.2.trans hq
  refine va_newaK hC.x hC.b (hC.w _ hw) rfl hdg rfl hn.1 rfl (Nat.le_trans (Nat.mul_le_mul hn.2 hcb) (by decide)) hr.1 hr.2 hqs fun H1 cA e1 z1 o1 hAr hNm => ?_
  have hcA : cA = xD x t := Option.some.inj (hNm.symm.trans (hra _ _ (hC.k.2 t _ htl).2))
  subst hcA
  refine kk H1 locs ls h1 ⟨h2.1.push hqs (by rw [hqs]; exact o1) (fun b hb => by rw [zk_nA, if_neg hb]) (fun b hb => by rw [zl_nA, if_neg hb]) (fun b j hb => rfl) ?_ ?_, by rw [z1, ← hq]; omega⟩ ⟨Nat.le_trans h3.1 (by omega), fun b h4 h5 => (o1 b (by rw [← hqs]; exact Nat.lt_of_lt_of_le h4 h3.1)).trans (h3.2.1 b h4 h5), h3.2.2⟩
  · intro c hc hz'
    rw [zk_nA, if_pos rfl] at hz'
    omega
  · intro t' ht' hz'
    rw [zk_nA, if_pos rfl] at hz'
    have : t' = t := by omega
    subst this
    rw [e1, zl_nA, if_pos rfl]
    congr 2
    funext j
    exact (hdf g q j).symm
theorem V_anew (hC : Cx x cc own nL) {C : String} {t q idx : Nat} {n : Int32} (hw : Cond.classLink own idx C ∈ TB) (hover : va_AO C (xs x)) (ht : t < 7) (ht4 : 4 ≤ t) (htl : (tyl (xD x))[t]? = some (xD x t, .object C))
    (hn : ¬ n < 0 ∧ n.toNatClampNeg ≤ 65536) (hq : (xH x).size + n0 = q) (hr : n0 + 1 ≤ (xR x).cells ∧ k0 + n.toNatClampNeg ≤ (xR x).slots) (hdg : decode cc pc = .ok (.anewarray idx, 3))
    (kk : V x (nA Z q (t + 11) n.toNatClampNeg) (n0 + 1) (k0 + n.toNatClampNeg) (pc + 3) L (va_rf (some q) :: rest) (zr g q)) : V x Z n0 k0 pc L (.int n :: rest) g := by
  intro H locs ls h1 h2 h3
  have hqs : H.size = q := h2.2.trans hq
  refine W.anew hC.x hC.b hC.o (hC.w _ hw) (va_AO.use hover) rfl hdg rfl hn.1 (by have := hn.2; omega) hr.1 hr.2 fun cA kA comp f1 f2 f3 f4 => ?_
  generalize hH1 : H.push ({ cls := cA, slots := Array.replicate n.toNatClampNeg .null, vm := .none } : Cell) = H1
  have z1 : H1.size = H.size + 1 := by rw [← hH1, Array.size_push]
  have e1 : H1[H.size]? = some (arrV cA n.toNatClampNeg (fun _ => .null)) := by rw [← hH1, Array.getElem?_push_size, ← arrV_new]
  have o1 : ∀ b : Nat, b < H.size → H1[b]? = H[b]? := fun b hb => by rw [← hH1, Array.getElem?_push, if_neg (Nat.ne_of_lt hb)]
  obtain ⟨kA', comp', -, -, -, r4⟩ := (hC.k.2 t _ htl).2
  have hcA : cA = xD x t := Option.some.inj (f1.symm.trans r4)
  subst hcA
  subst hqs
  refine kk H1 locs ls h1 ⟨h2.1.push rfl o1 (fun b hb => by rw [zk_nA, if_neg hb]) (fun b hb => by rw [zl_nA, if_neg hb]) (fun b j hb => rfl) ?_ ?_, by rw [z1]; have := h2.2; omega⟩ ⟨Nat.le_trans h3.1 (by omega), fun b h4 h5 => (o1 b (Nat.lt_of_lt_of_le h4 h3.1)).trans (h3.2.1 b h4 h5), h3.2.2⟩
  · intro c hc hz'
    rw [zk_nA, if_pos rfl] at hz'
    omega
  · intro t' ht' hz'
    rw [zk_nA, if_pos rfl] at hz'
    have : t' = t := by omega
    subst this
    rw [e1, zl_nA, if_pos rfl]
    congr 2
    funext j
    have h2' : ¬ t' = 2 := by omega
    simp [ev, h2', ht4, gP_zr, va_rf]
theorem V_objInit (hC : Cx x cc own nL) {idx a : Nat} (hw : Cond.methodLink own idx objectInit ∈ TB) (hi : Cond.instanceMethod objectInit ∈ TB) (hcd : Cond.code objectInit ⟨#[0xb1]⟩ 1 none ∈ TB) (hd : 1 ≤ (xR x).frames ∧ 40 ≤ (xR x).locals) (hW : (rest.map fun v => v.category).sum ≤ 8) (hdg : decode cc pc = .ok (.invokespecial idx, 3))
    (kk : V x Z n0 k0 (pc + 3) L rest g) : V x Z n0 k0 pc L (va_rf (some a) :: rest) g := fun H locs ls h1 h2 h3 =>
  W.objInit hC.x hC.b hC.o (hC.w _ hw) (hC.w _ hi) (hC.w _ hcd) rfl h1.1 rfl hdg hd.1 (by have := hd.2; show 2 * 0 + _ + 12 ≤ _; omega) (kk H locs ls h1 h2 h3)
theorem fvl_fZ {c a k : Nat} {v : Option Nat} (hfc : fc c k = 1) (j : Nat) : fvl (fZ Z a k v) g c a j = updV (fvl Z g c a) k (va_rf v) j := by
  by_cases h : j = k
  · subst h; simp [fvl, updV, hfc, zf_fZ]
  · simp [fvl, updV, zf_fZ, h]
theorem V_putF (hC : Cx x cc own nL) {C : String} {T : u_T} {N c k a idx : Nat} {v : Option Nat} {ty : FieldType} (ty0 : Nat → FieldType) (hcl : vwCl[c]? = some (C, T, N)) (hN : nF c = N) (hin : ∀ w ∈ u_ws C T N, w ∈ TB) (hty : ∀ k, k < N → parseFieldDescriptor (T k).2.2.1 = some (ty0 k)) (hnm : ∀ a, a < N → ∀ b, b < N → a ≠ b → (T a).2.1 ≠ (T b).2.1)
    (hz : zk Z a = c + 1) (hc : c < 10) (hk : k < N) (hfc : fc c k = 1) (hw : Cond.fieldLink own idx (T k).1 (T k).2.1 (T k).2.2.1 ∈ TB) (hfin : (T k).2.2.2 = true) (hin2 : (xM x).name = "<init>") (hdecl : (T k).1 = own) (hd : parseFieldDescriptor (T k).2.2.1 = some ty) (hn : narrow ty (va_rf v) = va_rf v) (hfit : fits ty (va_rf v) = true)
    (hA : xA x a) (hdg : decode cc pc = .ok (.putfield idx, 3))
    (kk : V x (fZ Z a k v) n0 k0 (pc + 3) L rest g) : V x Z n0 k0 pc L (va_rf v :: va_rf (some a) :: rest) g := by
  intro H locs ls h1 h2 h3
  have hap := va_apart (D := (xC x, xI x)) (own := own) hC.w hin ty0 hty hnm hC.k hcl
  obtain ⟨cell, q1, q2, q3, q4⟩ := h2.1.1 a c hc hz
  obtain ⟨hS, hfc2, kC, hkC, hkind⟩ := hC.k.1 c _ hcl
  obtain ⟨cf, kf, fi, f, hi, hsl⟩ := hS k hk
  have hlay := hC.w _ (hin _ (u_in_lay hk))
  unfold u_lay at hlay
  rw [if_pos hfin] at hlay
  have hst := (u_facts hfc2 hkC (u_lays hC.w hin hk) hi).1
  have hcf : (xm x).cls = cf := by
    obtain ⟨_, _, c', _, _, _, -, -, hf', -, -, -, hown2, -⟩ := Cond.laysFinal_spec hlay
    have e1 : c' = cf := by have := hi.symm.trans hf'; simp at this; exact this.1.symm
    rw [hdecl] at hown2
    rw [← e1]; exact Option.some.inj (hC.o.symm.trans hown2)
  have h6 := u_fits hfc2 hkC hkind (Or.inr hlay) hi hd hn hfit
  have q4' : ∀ j, j < N → cell.slots[(xI x) c j]? = some (fvl Z g c a j) := fun j hj => q4 j (by rw [hN]; exact hj)
  refine W.putFinK hC.x hC.b hC.o (hC.w _ hw) hi hst hcf hin2 (by rw [q2]; exact h6) q1 q3 (by rw [hsl]; exact k2_hasslot (q4' k hk)) rfl rfl hdg fun H' e1 e2 e3 => ?_
  rw [hsl] at e1 ⊢
  refine kk H' _ ls h1 ⟨⟨fun b c' hc' hb => ?_, fun b t ht hb => ?_⟩, e2.trans h2.2⟩ (h3.put e2 e3 hA)
  · rw [zk_fZ] at hb
    by_cases hba : b = a
    · subst hba
      have : c' = c := by omega
      subst this
      exact t_OB.to (V := updV (fvl Z g c' b) k (va_rf v)) ⟨_, e1, q2, q3, by rw [hN]; exact t_set q4' hap hk _⟩ (fun j _ => (fvl_fZ hfc j).symm)
    · exact ((h2.1.1 b c' hc' hb).kept (e3 b hba)).to (fun j _ => by simp [fvl, zf_fZ, hba])
  · rw [zk_fZ] at hb
    have hba : b ≠ a := fun e => by rw [e] at hb; omega
    rw [e3 b hba]
    exact h2.1.2 b t ht hb
theorem rf_narA (t : FieldType) (v : Option Nat) : narrow (.array t) (va_rf v) = va_rf v := by cases v <;> rfl
theorem rf_fitsA (t : FieldType) (v : Option Nat) : fits (.array t) (va_rf v) = true := by cases v <;> rfl
end INITROWS
/-! a constructor's contract -/
def rmi (d mc ms : Nat) : Room := { frames := d, cells := mc, slots := ms, locals := 40 * d }
def fri (Z : Zt) (hs : Nat) : Nat → Prop := fun q => zk Z q ≠ 0 ∨ hs ≤ q
def VI (y : MethodName) (b : ByteArray) (nL d mc ms : Nat) (As : List Value) (Z : Zt) (g : Mem) (hs : Nat) (Z' : Zt) (g' : Mem) : Prop :=
  ∀ (l : Launch) (xC : Nat → ClassId) (xI : Nat → Nat → Nat) (xD : Nat → ClassId), Met l y (wq y b nL none) (rmi d mc ms) (va_Pc As (fun U => HV xC xI xD Z g U.heap ∧ U.heap.size = hs ∧ Kx xC xI xD U)) (fun _ st oc t => oc = .returned none ∧ (∀ q, zk Z' q ≠ 0 → fri Z hs q) ∧ HV xC xI xD Z' g' t.heap ∧ t.heap.size = st.heap.size + mc ∧ va_F (fri Z hs) st t) mc ms (fri Z hs)
def Ci (x : Cq) (b : ByteArray) (own : String) (nL d mc ms : Nat) (Z0 : Zt) (hs : Nat) (Zf : Zt) (gf : Mem) : Prop :=
  Cx x b own nL ∧ (xM x).sig.returnType = none ∧ xR x = rmi d mc ms ∧ xA x = fri Z0 hs ∧ xH x = (xs x).heap ∧ (xH x).size = hs ∧ (xM x).name = "<init>" ∧ xQ x = MQ (xb x) (fun _ st oc t => oc = .returned none ∧ (∀ q, zk Zf q ≠ 0 → fri Z0 hs q) ∧ HV (xC x) (xI x) (xD x) Zf gf t.heap ∧ t.heap.size = st.heap.size + mc ∧ va_F (fri Z0 hs) st t) (xa x) (xs x) mc ms (fri Z0 hs)
section CI
variable {x : Cq} {b : ByteArray} {own : String} {nL d mc ms : Nat} {Z0 : Zt} {hs : Nat} {Zf : Zt} {gf : Mem}
theorem Ci.c (h : Ci x b own nL d mc ms Z0 hs Zf gf) : Cx x b own nL := h.1
theorem Ci.h (h : Ci x b own nL d mc ms Z0 hs Zf gf) : (xH x).size = hs := h.2.2.2.2.2.1
theorem Ci.m (h : Ci x b own nL d mc ms Z0 hs Zf gf) : (xM x).name = "<init>" := h.2.2.2.2.2.2.1
theorem Ci.q (h : Ci x b own nL d mc ms Z0 hs Zf gf) (n0 : Nat) : (xH x).size + n0 = hs + n0 := by rw [h.h]
theorem Ci.le (h : Ci x b own nL d mc ms Z0 hs Zf gf) (n0 : Nat) : (xH x).size ≤ hs + n0 := by rw [h.h]; exact Nat.le_add_right _ _
theorem Ci.r (h : Ci x b own nL d mc ms Z0 hs Zf gf) {u v : Nat} (q : u ≤ mc ∧ v ≤ ms) : u ≤ (xR x).cells ∧ v ≤ (xR x).slots := by rw [h.2.2.1]; exact q
theorem Ci.dd (h : Ci x b own nL d mc ms Z0 hs Zf gf) {d' : Nat} (q : d' + 1 ≤ d) : d' + 1 ≤ (xR x).frames ∧ 40 * d' + 40 ≤ (xR x).locals := by rw [h.2.2.1]; exact ⟨q, by show _ ≤ 40 * d; omega⟩
theorem Ci.lv (h : Ci x b own nL d mc ms Z0 hs Zf gf) : Lv x Z0 := fun q hq => by rw [h.2.2.2.1]; exact Or.inl hq
theorem Ci.lh (h : Ci x b own nL d mc ms Z0 hs Zf gf) : Lh x := fun q hq => by rw [h.2.2.2.1]; exact Or.inr (by rw [← h.h]; exact hq)
theorem VI.of {y : MethodName} {As : List Value} {Z : Zt} {g : Mem} (hy : plainName y.cls = true) (hyn : y.name = "<init>") (hn : (lg_sl As).length ≤ nL)
    (body : ∀ x : Cq, Ci x b y.cls nL d mc ms Z hs Zf gf → V x Z 0 0 0 (lv_args 0 As) [] g) : VI y b nL d mc ms As Z g hs Zf gf := by
  intro l xC xI xD
  refine Met.ofW (cc := b) (maxL := nL) (ret := none) hy rfl ?_
  intro p e s m args below meth c s₁ B hml hv
  obtain ⟨rfl, hH, hsz, hK⟩ := hv
  have hts := atoms_spec (ws := wq y b nL none) B.pre
  have hb := body (p, l, e, rmi d mc ms, s, m, As.toArray, below, meth, c, xC, xI, xD, fri Z hs, s.heap, MQ below (fun _ st oc t => oc = .returned none ∧ (∀ q, zk Zf q ≠ 0 → fri Z hs q) ∧ HV xC xI xD Zf gf t.heap ∧ t.heap.size = st.heap.size + mc ∧ va_F (fri Z hs) st t) As.toArray s mc ms (fri Z hs))
    ⟨⟨B.exec, B.bytes, hml, fun w h => hts w (List.mem_cons_of_mem _ h), findClass_of_methodNamed B.named, hK, B.notSynchronized⟩, B.returns, rfl, rfl, rfl, hsz, (name_of_methodNamed B.named B.method).1.trans hyn, rfl⟩
  have hl := lv_entry As (n := nL) hn
  rw [lg_entry_eq]
  exact hb s.heap [] _ (by rw [show (xc _) = c from rfl, hml]; exact hl) ⟨hH, rfl⟩ va_S.rf
theorem V_vretI {n0 k0 pc : Nat} {Z : Zt} {g : Mem} {L : List (Nat × Value)} (hM : Ci x b own nL d mc ms Z0 hs Zf gf) (hlv : Lv x Z) (hg : n0 = mc ∧ k0 ≤ ms) (h : some (Z, g) = some (Zf, gf)) (hdg : decode b pc = .ok (.return_, 1)) : V x Z n0 k0 pc L [] g := by
  cases h
  obtain ⟨rfl, hk⟩ := hg
  obtain ⟨hC, hr, hR, hA, hH, hsz, hnm, hQ⟩ := hM
  intro H locs ls h1 h2 h3
  rw [hA, hH] at h3
  rw [hQ]
  refine W.widen (Nat.le_refl _) hk ?_
  exact W.vret hC.x hC.b hr (fun t ht hW => ⟨rfl, fun q hq => by have := hlv q hq; rw [hA] at this; exact this, by rw [ht]; exact h2.1, by rw [ht, h2.2, hH], h3.F ht⟩) h3.2.2 hdg hC.l
end CI
section CALLI
variable {x : Cq} {Z Z1 : Zt} {n0 k0 pc : Nat} {L : List (Nat × Value)} {rest As : List Value} {g g1 : Mem} {b b' : ByteArray} {own : String} {nL nL' d' idx mc' ms' hs : Nat} {y : MethodName}
theorem Pi_blind {As : List Value} {xC : Nat → ClassId} {xI : Nat → Nat → Nat} {xD : Nat → ClassId} : FrameBlind (va_Pc As (fun U => HV xC xI xD Z g U.heap ∧ U.heap.size = hs ∧ Kx xC xI xD U)) := fun a U g mk q => by
  obtain ⟨q0, q1, q2, q3⟩ := q
  exact ⟨q0, q1, q2, q3.same rfl⟩
theorem V_runI (hlv : Lv x Z) (hlh : Lh x) (hhs : (xH x).size + n0 = hs) {a : Array Value} {ls0 : List Value}
    (hr : ∀ (H : Heap) (locs : List Loc) (ls : Array Slot), lv_has ls (xc x).maxLocals L → HW x Z n0 g H → va_Run (xp x) (xl x) (xe x) (xR x) (xs x) (xm x) (xa x) (xb x) (xM x) (xc x) H locs n0 k0 mc' ms' (F0 (xm x) pc ls ls0) rest ((fun (_ : Array Value) (st : State) (oc : Outcome) (t : State) => oc = .returned none ∧ (∀ q, zk Z1 q ≠ 0 → fri Z hs q) ∧ HV (xC x) (xI x) (xD x) Z1 g1 t.heap ∧ t.heap.size = st.heap.size + mc' ∧ va_F (fri Z hs) st t) a) (fri Z hs))
    (kk : Lv x Z1 → V x Z1 (n0 + mc') (k0 + ms') (pc + 3) L rest g1) : V x Z n0 k0 pc L ls0 g := by
  have hA : ∀ q, fri Z hs q → xA x q := fun q hq => hq.elim (hlv q) (fun hq => hlh q (by omega))
  intro H locs ls h1 h2 h3 T hT X
  obtain ⟨v, st₀, t, T', L', h0, X', hL, e1, e2, ⟨hv, hl1, hHV, hzz, hz, hk⟩, st⟩ := hr H locs ls h1 h2 T hT X
  cases hv
  rw [h0] at hz hk hzz
  obtain ⟨t2, a1, b1⟩ := kk (fun q hq => hA q (hl1 q hq)) T'.heap (locs ++ L') ls h1 ⟨by rw [e1]; exact hHV, by rw [e1, hzz, h2.2]; omega⟩
    ⟨Nat.le_trans h3.1 (by rw [e1]; exact hz), fun q h4 h5 => by rw [e1, hk q (Nat.lt_of_lt_of_le h4 h3.1) (fun z => h5 (hA q z))]; exact h3.2.1 q h4 h5, fun q hq => by
      rcases List.mem_append.mp hq with h | h
      · exact h3.2.2 q h
      · exact hA _ (hL q h)⟩ T' rfl X'
  exact ⟨t2, st t2 a1, b1⟩
theorem V_callI (hC : Cx x b own nL) (hlv : Lv x Z) (hlh : Lh x) (hhs : (xH x).size + n0 = hs) {a : Nat} (hq : Mq y b' nL' none As.length) (hyn : y.name = "<init>") (hin : Cond.instanceMethod y ∈ TB) (hlink : Cond.methodLink own idx y ∈ TB) (hd : d' + 1 ≤ (xR x).frames ∧ 40 * d' + 40 ≤ (xR x).locals) (hn : n0 + mc' ≤ (xR x).cells ∧ k0 + ms' ≤ (xR x).slots)
    (hM : VI y b' nL' d' mc' ms' (.ref a :: As) Z g hs Z1 g1) {ls0 : List Value} (hst : As.reverse ++ .ref a :: rest = ls0) (hW : (rest.map fun v => v.category).sum ≤ 8) (hdg : decode b pc = .ok (.invokespecial idx, 3))
    (kk : Lv x Z1 → V x Z1 (n0 + mc') (k0 + ms') (pc + 3) L rest g1) : V x Z n0 k0 pc L ls0 g := by
  refine V_runI hlv hlh hhs (a := (Value.ref a :: As).toArray) (fun H locs ls h1 h2 => ?_) kk
  exact va_runI ⟨hC.x, hC.b, hC.n, hC.o, hC.w⟩ (hM (xl x) (xC x) (xI x) (xD x)) ⟨callB_of As.length hC.w (TB_goodIn hq.1) rfl rfl rfl (hC.w _ hq.2.1) (hC.w _ hlink) hq.2.2.1 ⟨hd.1, by have := hq.2.2.2; have := hd.2; show 8 + (nL' + 11) + 40 * d' ≤ _; omega⟩, hyn, hC.w _ hin⟩ ⟨Pi_blind, fun U hU hW => ⟨rfl, by rw [hU]; exact h2.1, by rw [hU, h2.2]; exact hhs, hC.K.moved hW⟩⟩ rfl rfl (by rw [← hC.n]; exact h1.1) hst.symm (lv_room hW) hdg hn
theorem V_callIN (hC : Cx x b own nL) (hlv : Lv x Z) (hlh : Lh x) (hhs : (xH x).size + n0 = hs) {a : Nat} (hq : Mq y b' nL' none As.length) (hyn : y.name = "<init>") (hin : Cond.instanceMethod y ∈ TB) (hlink : (own, idx, y) ∈ NW) (hd : d' + 1 ≤ (xR x).frames ∧ 40 * d' + 40 ≤ (xR x).locals) (hn : n0 + mc' ≤ (xR x).cells ∧ k0 + ms' ≤ (xR x).slots)
    (hM : VI y b' nL' d' mc' ms' (.ref a :: As) Z g hs Z1 g1) {ls0 : List Value} (hst : As.reverse ++ .ref a :: rest = ls0) (hW : (rest.map fun v => v.category).sum ≤ 8) (hdg : decode b pc = .ok (.invokespecial idx, 3))
    (kk : Lv x Z1 → V x Z1 (n0 + mc') (k0 + ms') (pc + 3) L rest g1) : V x Z n0 k0 pc L ls0 g := by
  refine V_runI hlv hlh hhs (a := (Value.ref a :: As).toArray) (fun H locs ls h1 h2 => ?_) kk
  exact va_runIN ⟨hC.x, hC.b, hC.n, hC.o, hC.w⟩ (hM (xl x) (xC x) (xI x) (xD x)) ⟨va_cnB As.length hC.w (TB_goodIn hq.1) rfl rfl rfl (hC.K.2.1 _ hlink) (hC.w _ hq.2.1) hq.2.2.1 ⟨hd.1, by have := hq.2.2.2; have := hd.2; show 8 + (nL' + 11) + 40 * d' ≤ _; omega⟩, hyn, hC.w _ hin⟩ ⟨Pi_blind, fun U hU hW => ⟨rfl, by rw [hU]; exact h2.1, by rw [hU, h2.2]; exact hhs, hC.K.moved hW⟩⟩ rfl rfl (by rw [← hC.n]; exact h1.1) hst.symm (lv_room hW) hdg hn
end CALLI
section FINALS
variable {x : Cq} {Z : Zt} {n0 k0 pc : Nat} {L : List (Nat × Value)} {rest : List Value} {g : Mem} {cc : ByteArray} {nL : Nat}
theorem PF0_0 (hC : Cx x cc RX0 nL) {a idx : Nat} {v : Option Nat} (hw : Cond.fieldLink RX0 idx "ProvenanceTables$Evaluator" "stack" "[LProvenanceTables$Relation;" ∈ TB) (hz : zk Z a = 1) (hin2 : (xM x).name = "<init>") (hA : xA x a) (hdg : decode cc pc = .ok (.putfield idx, 3)) (kk : V x (fZ Z a 0 v) n0 k0 (pc + 3) L rest g) : V x Z n0 k0 pc L (va_rf v :: va_rf (some a) :: rest) g := V_putF (C := RX0) (T := TX0) (N := 4) (c := 0) (k := 0) (ty := (.array (.object "ProvenanceTables$Relation"))) hC tyX0 rfl rfl inX0 tyX0_ok nmX0 hz (by omega) (by omega) rfl hw rfl hin2 rfl (by decide +kernel) (rf_narA _ _) (rf_fitsA _ _) hA hdg kk
theorem PF1_0 (hC : Cx x cc RX1 nL) {a idx : Nat} {v : Option Nat} (hw : Cond.fieldLink RX1 idx "ProvenanceTables$History" "states" "[LProvenanceTables$State;" ∈ TB) (hz : zk Z a = 2) (hin2 : (xM x).name = "<init>") (hA : xA x a) (hdg : decode cc pc = .ok (.putfield idx, 3)) (kk : V x (fZ Z a 0 v) n0 k0 (pc + 3) L rest g) : V x Z n0 k0 pc L (va_rf v :: va_rf (some a) :: rest) g := V_putF (C := RX1) (T := TX1) (N := 2) (c := 1) (k := 0) (ty := (.array (.object "ProvenanceTables$State"))) hC tyX1 rfl rfl inX1 tyX1_ok nmX1 hz (by omega) (by omega) rfl hw rfl hin2 rfl (by decide +kernel) (rf_narA _ _) (rf_fitsA _ _) hA hdg kk
theorem PF2_0 (hC : Cx x cc RX3 nL) {a idx : Nat} {v : Option Nat} (hw : Cond.fieldLink RX3 idx "ProvenanceTables$Line" "signs" "[C" ∈ TB) (hz : zk Z a = 3) (hin2 : (xM x).name = "<init>") (hA : xA x a) (hdg : decode cc pc = .ok (.putfield idx, 3)) (kk : V x (fZ Z a 0 v) n0 k0 (pc + 3) L rest g) : V x Z n0 k0 pc L (va_rf v :: va_rf (some a) :: rest) g := V_putF (C := RX3) (T := TX3) (N := 2) (c := 2) (k := 0) (ty := (.array .char)) hC tyX3 rfl rfl inX3 tyX3_ok nmX3 hz (by omega) (by omega) rfl hw rfl hin2 rfl (by decide +kernel) (rf_narA _ _) (rf_fitsA _ _) hA hdg kk
theorem PF3_0 (hC : Cx x cc RX5 nL) {a idx : Nat} {v : Option Nat} (hw : Cond.fieldLink RX5 idx "ProvenanceTables$Polynomial" "monomials" "[J" ∈ TB) (hz : zk Z a = 4) (hin2 : (xM x).name = "<init>") (hA : xA x a) (hdg : decode cc pc = .ok (.putfield idx, 3)) (kk : V x (fZ Z a 0 v) n0 k0 (pc + 3) L rest g) : V x Z n0 k0 pc L (va_rf v :: va_rf (some a) :: rest) g := V_putF (C := RX5) (T := TX5) (N := 3) (c := 3) (k := 0) (ty := (.array .long)) hC tyX5 rfl rfl inX5 tyX5_ok nmX5 hz (by omega) (by omega) rfl hw rfl hin2 rfl (by decide +kernel) (rf_narA _ _) (rf_fitsA _ _) hA hdg kk
theorem PF3_1 (hC : Cx x cc RX5 nL) {a idx : Nat} {v : Option Nat} (hw : Cond.fieldLink RX5 idx "ProvenanceTables$Polynomial" "factors" "[J" ∈ TB) (hz : zk Z a = 4) (hin2 : (xM x).name = "<init>") (hA : xA x a) (hdg : decode cc pc = .ok (.putfield idx, 3)) (kk : V x (fZ Z a 1 v) n0 k0 (pc + 3) L rest g) : V x Z n0 k0 pc L (va_rf v :: va_rf (some a) :: rest) g := V_putF (C := RX5) (T := TX5) (N := 3) (c := 3) (k := 1) (ty := (.array .long)) hC tyX5 rfl rfl inX5 tyX5_ok nmX5 hz (by omega) (by omega) rfl hw rfl hin2 rfl (by decide +kernel) (rf_narA _ _) (rf_fitsA _ _) hA hdg kk
theorem PF4_0 (hC : Cx x cc RX6 nL) {a idx : Nat} {v : Option Nat} (hw : Cond.fieldLink RX6 idx "ProvenanceTables$Query" "kinds" "[I" ∈ TB) (hz : zk Z a = 5) (hin2 : (xM x).name = "<init>") (hA : xA x a) (hdg : decode cc pc = .ok (.putfield idx, 3)) (kk : V x (fZ Z a 0 v) n0 k0 (pc + 3) L rest g) : V x Z n0 k0 pc L (va_rf v :: va_rf (some a) :: rest) g := V_putF (C := RX6) (T := TX6) (N := 10) (c := 4) (k := 0) (ty := (.array .int)) hC tyX6 rfl rfl inX6 tyX6_ok nmX6 hz (by omega) (by omega) rfl hw rfl hin2 rfl (by decide +kernel) (rf_narA _ _) (rf_fitsA _ _) hA hdg kk
theorem PF4_1 (hC : Cx x cc RX6 nL) {a idx : Nat} {v : Option Nat} (hw : Cond.fieldLink RX6 idx "ProvenanceTables$Query" "firsts" "[I" ∈ TB) (hz : zk Z a = 5) (hin2 : (xM x).name = "<init>") (hA : xA x a) (hdg : decode cc pc = .ok (.putfield idx, 3)) (kk : V x (fZ Z a 1 v) n0 k0 (pc + 3) L rest g) : V x Z n0 k0 pc L (va_rf v :: va_rf (some a) :: rest) g := V_putF (C := RX6) (T := TX6) (N := 10) (c := 4) (k := 1) (ty := (.array .int)) hC tyX6 rfl rfl inX6 tyX6_ok nmX6 hz (by omega) (by omega) rfl hw rfl hin2 rfl (by decide +kernel) (rf_narA _ _) (rf_fitsA _ _) hA hdg kk
theorem PF4_2 (hC : Cx x cc RX6 nL) {a idx : Nat} {v : Option Nat} (hw : Cond.fieldLink RX6 idx "ProvenanceTables$Query" "seconds" "[I" ∈ TB) (hz : zk Z a = 5) (hin2 : (xM x).name = "<init>") (hA : xA x a) (hdg : decode cc pc = .ok (.putfield idx, 3)) (kk : V x (fZ Z a 2 v) n0 k0 (pc + 3) L rest g) : V x Z n0 k0 pc L (va_rf v :: va_rf (some a) :: rest) g := V_putF (C := RX6) (T := TX6) (N := 10) (c := 4) (k := 2) (ty := (.array .int)) hC tyX6 rfl rfl inX6 tyX6_ok nmX6 hz (by omega) (by omega) rfl hw rfl hin2 rfl (by decide +kernel) (rf_narA _ _) (rf_fitsA _ _) hA hdg kk
theorem PF4_3 (hC : Cx x cc RX6 nL) {a idx : Nat} {v : Option Nat} (hw : Cond.fieldLink RX6 idx "ProvenanceTables$Query" "widthStack" "[I" ∈ TB) (hz : zk Z a = 5) (hin2 : (xM x).name = "<init>") (hA : xA x a) (hdg : decode cc pc = .ok (.putfield idx, 3)) (kk : V x (fZ Z a 3 v) n0 k0 (pc + 3) L rest g) : V x Z n0 k0 pc L (va_rf v :: va_rf (some a) :: rest) g := V_putF (C := RX6) (T := TX6) (N := 10) (c := 4) (k := 3) (ty := (.array .int)) hC tyX6 rfl rfl inX6 tyX6_ok nmX6 hz (by omega) (by omega) rfl hw rfl hin2 rfl (by decide +kernel) (rf_narA _ _) (rf_fitsA _ _) hA hdg kk
theorem PF4_4 (hC : Cx x cc RX6 nL) {a idx : Nat} {v : Option Nat} (hw : Cond.fieldLink RX6 idx "ProvenanceTables$Query" "due" "[C" ∈ TB) (hz : zk Z a = 5) (hin2 : (xM x).name = "<init>") (hA : xA x a) (hdg : decode cc pc = .ok (.putfield idx, 3)) (kk : V x (fZ Z a 4 v) n0 k0 (pc + 3) L rest g) : V x Z n0 k0 pc L (va_rf v :: va_rf (some a) :: rest) g := V_putF (C := RX6) (T := TX6) (N := 10) (c := 4) (k := 4) (ty := (.array .char)) hC tyX6 rfl rfl inX6 tyX6_ok nmX6 hz (by omega) (by omega) rfl hw rfl hin2 rfl (by decide +kernel) (rf_narA _ _) (rf_fitsA _ _) hA hdg kk
theorem PF5_0 (hC : Cx x cc RX7 nL) {a idx : Nat} {v : Option Nat} (hw : Cond.fieldLink RX7 idx "ProvenanceTables$Relation" "keys" "[I" ∈ TB) (hz : zk Z a = 6) (hin2 : (xM x).name = "<init>") (hA : xA x a) (hdg : decode cc pc = .ok (.putfield idx, 3)) (kk : V x (fZ Z a 0 v) n0 k0 (pc + 3) L rest g) : V x Z n0 k0 pc L (va_rf v :: va_rf (some a) :: rest) g := V_putF (C := RX7) (T := TX7) (N := 4) (c := 5) (k := 0) (ty := (.array .int)) hC tyX7 rfl rfl inX7 tyX7_ok nmX7 hz (by omega) (by omega) rfl hw rfl hin2 rfl (by decide +kernel) (rf_narA _ _) (rf_fitsA _ _) hA hdg kk
theorem PF5_1 (hC : Cx x cc RX7 nL) {a idx : Nat} {v : Option Nat} (hw : Cond.fieldLink RX7 idx "ProvenanceTables$Relation" "polynomials" "[LProvenanceTables$Polynomial;" ∈ TB) (hz : zk Z a = 6) (hin2 : (xM x).name = "<init>") (hA : xA x a) (hdg : decode cc pc = .ok (.putfield idx, 3)) (kk : V x (fZ Z a 1 v) n0 k0 (pc + 3) L rest g) : V x Z n0 k0 pc L (va_rf v :: va_rf (some a) :: rest) g := V_putF (C := RX7) (T := TX7) (N := 4) (c := 5) (k := 1) (ty := (.array (.object "ProvenanceTables$Polynomial"))) hC tyX7 rfl rfl inX7 tyX7_ok nmX7 hz (by omega) (by omega) rfl hw rfl hin2 rfl (by decide +kernel) (rf_narA _ _) (rf_fitsA _ _) hA hdg kk
theorem PF6_0 (hC : Cx x cc RX8 nL) {a idx : Nat} {v : Option Nat} (hw : Cond.fieldLink RX8 idx "ProvenanceTables$State" "widths" "[I" ∈ TB) (hz : zk Z a = 7) (hin2 : (xM x).name = "<init>") (hA : xA x a) (hdg : decode cc pc = .ok (.putfield idx, 3)) (kk : V x (fZ Z a 0 v) n0 k0 (pc + 3) L rest g) : V x Z n0 k0 pc L (va_rf v :: va_rf (some a) :: rest) g := V_putF (C := RX8) (T := TX8) (N := 8) (c := 6) (k := 0) (ty := (.array .int)) hC tyX8 rfl rfl inX8 tyX8_ok nmX8 hz (by omega) (by omega) rfl hw rfl hin2 rfl (by decide +kernel) (rf_narA _ _) (rf_fitsA _ _) hA hdg kk
theorem PF6_1 (hC : Cx x cc RX8 nL) {a idx : Nat} {v : Option Nat} (hw : Cond.fieldLink RX8 idx "ProvenanceTables$State" "tables" "[I" ∈ TB) (hz : zk Z a = 7) (hin2 : (xM x).name = "<init>") (hA : xA x a) (hdg : decode cc pc = .ok (.putfield idx, 3)) (kk : V x (fZ Z a 1 v) n0 k0 (pc + 3) L rest g) : V x Z n0 k0 pc L (va_rf v :: va_rf (some a) :: rest) g := V_putF (C := RX8) (T := TX8) (N := 8) (c := 6) (k := 1) (ty := (.array .int)) hC tyX8 rfl rfl inX8 tyX8_ok nmX8 hz (by omega) (by omega) rfl hw rfl hin2 rfl (by decide +kernel) (rf_narA _ _) (rf_fitsA _ _) hA hdg kk
theorem PF6_2 (hC : Cx x cc RX8 nL) {a idx : Nat} {v : Option Nat} (hw : Cond.fieldLink RX8 idx "ProvenanceTables$State" "keys" "[I" ∈ TB) (hz : zk Z a = 7) (hin2 : (xM x).name = "<init>") (hA : xA x a) (hdg : decode cc pc = .ok (.putfield idx, 3)) (kk : V x (fZ Z a 2 v) n0 k0 (pc + 3) L rest g) : V x Z n0 k0 pc L (va_rf v :: va_rf (some a) :: rest) g := V_putF (C := RX8) (T := TX8) (N := 8) (c := 6) (k := 2) (ty := (.array .int)) hC tyX8 rfl rfl inX8 tyX8_ok nmX8 hz (by omega) (by omega) rfl hw rfl hin2 rfl (by decide +kernel) (rf_narA _ _) (rf_fitsA _ _) hA hdg kk
theorem PF6_3 (hC : Cx x cc RX8 nL) {a idx : Nat} {v : Option Nat} (hw : Cond.fieldLink RX8 idx "ProvenanceTables$State" "costs" "[I" ∈ TB) (hz : zk Z a = 7) (hin2 : (xM x).name = "<init>") (hA : xA x a) (hdg : decode cc pc = .ok (.putfield idx, 3)) (kk : V x (fZ Z a 3 v) n0 k0 (pc + 3) L rest g) : V x Z n0 k0 pc L (va_rf v :: va_rf (some a) :: rest) g := V_putF (C := RX8) (T := TX8) (N := 8) (c := 6) (k := 3) (ty := (.array .int)) hC tyX8 rfl rfl inX8 tyX8_ok nmX8 hz (by omega) (by omega) rfl hw rfl hin2 rfl (by decide +kernel) (rf_narA _ _) (rf_fitsA _ _) hA hdg kk
theorem PF6_4 (hC : Cx x cc RX8 nL) {a idx : Nat} {v : Option Nat} (hw : Cond.fieldLink RX8 idx "ProvenanceTables$State" "trusts" "[I" ∈ TB) (hz : zk Z a = 7) (hin2 : (xM x).name = "<init>") (hA : xA x a) (hdg : decode cc pc = .ok (.putfield idx, 3)) (kk : V x (fZ Z a 4 v) n0 k0 (pc + 3) L rest g) : V x Z n0 k0 pc L (va_rf v :: va_rf (some a) :: rest) g := V_putF (C := RX8) (T := TX8) (N := 8) (c := 6) (k := 4) (ty := (.array .int)) hC tyX8 rfl rfl inX8 tyX8_ok nmX8 hz (by omega) (by omega) rfl hw rfl hin2 rfl (by decide +kernel) (rf_narA _ _) (rf_fitsA _ _) hA hdg kk
theorem PF6_5 (hC : Cx x cc RX8 nL) {a idx : Nat} {v : Option Nat} (hw : Cond.fieldLink RX8 idx "ProvenanceTables$State" "queryLine" "LProvenanceTables$Line;" ∈ TB) (hz : zk Z a = 7) (hin2 : (xM x).name = "<init>") (hA : xA x a) (hdg : decode cc pc = .ok (.putfield idx, 3)) (kk : V x (fZ Z a 5 v) n0 k0 (pc + 3) L rest g) : V x Z n0 k0 pc L (va_rf v :: va_rf (some a) :: rest) g := V_putF (C := RX8) (T := TX8) (N := 8) (c := 6) (k := 5) (ty := (.object "ProvenanceTables$Line")) hC tyX8 rfl rfl inX8 tyX8_ok nmX8 hz (by omega) (by omega) rfl hw rfl hin2 rfl (by decide +kernel) (rf_nar _ _) (rf_fits _ _) hA hdg kk
theorem PF7_0 (hC : Cx x cc RX9 nL) {a idx : Nat} {v : Option Nat} (hw : Cond.fieldLink RX9 idx "ProvenanceTables$TagSets" "sets" "[I" ∈ TB) (hz : zk Z a = 8) (hin2 : (xM x).name = "<init>") (hA : xA x a) (hdg : decode cc pc = .ok (.putfield idx, 3)) (kk : V x (fZ Z a 0 v) n0 k0 (pc + 3) L rest g) : V x Z n0 k0 pc L (va_rf v :: va_rf (some a) :: rest) g := V_putF (C := RX9) (T := TX9) (N := 4) (c := 7) (k := 0) (ty := (.array .int)) hC tyX9 rfl rfl inX9 tyX9_ok nmX9 hz (by omega) (by omega) rfl hw rfl hin2 rfl (by decide +kernel) (rf_narA _ _) (rf_fitsA _ _) hA hdg kk
theorem PF7_1 (hC : Cx x cc RX9 nL) {a idx : Nat} {v : Option Nat} (hw : Cond.fieldLink RX9 idx "ProvenanceTables$TagSets" "users" "[I" ∈ TB) (hz : zk Z a = 8) (hin2 : (xM x).name = "<init>") (hA : xA x a) (hdg : decode cc pc = .ok (.putfield idx, 3)) (kk : V x (fZ Z a 1 v) n0 k0 (pc + 3) L rest g) : V x Z n0 k0 pc L (va_rf v :: va_rf (some a) :: rest) g := V_putF (C := RX9) (T := TX9) (N := 4) (c := 7) (k := 1) (ty := (.array .int)) hC tyX9 rfl rfl inX9 tyX9_ok nmX9 hz (by omega) (by omega) rfl hw rfl hin2 rfl (by decide +kernel) (rf_narA _ _) (rf_fitsA _ _) hA hdg kk
theorem PF7_2 (hC : Cx x cc RX9 nL) {a idx : Nat} {v : Option Nat} (hw : Cond.fieldLink RX9 idx "ProvenanceTables$TagSets" "endings" "[I" ∈ TB) (hz : zk Z a = 8) (hin2 : (xM x).name = "<init>") (hA : xA x a) (hdg : decode cc pc = .ok (.putfield idx, 3)) (kk : V x (fZ Z a 2 v) n0 k0 (pc + 3) L rest g) : V x Z n0 k0 pc L (va_rf v :: va_rf (some a) :: rest) g := V_putF (C := RX9) (T := TX9) (N := 4) (c := 7) (k := 2) (ty := (.array .int)) hC tyX9 rfl rfl inX9 tyX9_ok nmX9 hz (by omega) (by omega) rfl hw rfl hin2 rfl (by decide +kernel) (rf_narA _ _) (rf_fitsA _ _) hA hdg kk
theorem PF8_0 (hC : Cx x cc RX10 nL) {a idx : Nat} {v : Option Nat} (hw : Cond.fieldLink RX10 idx "ProvenanceTables" "state" "LProvenanceTables$State;" ∈ TB) (hz : zk Z a = 9) (hin2 : (xM x).name = "<init>") (hA : xA x a) (hdg : decode cc pc = .ok (.putfield idx, 3)) (kk : V x (fZ Z a 0 v) n0 k0 (pc + 3) L rest g) : V x Z n0 k0 pc L (va_rf v :: va_rf (some a) :: rest) g := V_putF (C := RX10) (T := TX10) (N := 10) (c := 8) (k := 0) (ty := (.object "ProvenanceTables$State")) hC tyX10 rfl rfl inX10 tyX10_ok nmX10 hz (by omega) (by omega) rfl hw rfl hin2 rfl (by decide +kernel) (rf_nar _ _) (rf_fits _ _) hA hdg kk
theorem PF8_1 (hC : Cx x cc RX10 nL) {a idx : Nat} {v : Option Nat} (hw : Cond.fieldLink RX10 idx "ProvenanceTables" "trial" "LProvenanceTables$State;" ∈ TB) (hz : zk Z a = 9) (hin2 : (xM x).name = "<init>") (hA : xA x a) (hdg : decode cc pc = .ok (.putfield idx, 3)) (kk : V x (fZ Z a 1 v) n0 k0 (pc + 3) L rest g) : V x Z n0 k0 pc L (va_rf v :: va_rf (some a) :: rest) g := V_putF (C := RX10) (T := TX10) (N := 10) (c := 8) (k := 1) (ty := (.object "ProvenanceTables$State")) hC tyX10 rfl rfl inX10 tyX10_ok nmX10 hz (by omega) (by omega) rfl hw rfl hin2 rfl (by decide +kernel) (rf_nar _ _) (rf_fits _ _) hA hdg kk
theorem PF8_2 (hC : Cx x cc RX10 nL) {a idx : Nat} {v : Option Nat} (hw : Cond.fieldLink RX10 idx "ProvenanceTables" "history" "LProvenanceTables$History;" ∈ TB) (hz : zk Z a = 9) (hin2 : (xM x).name = "<init>") (hA : xA x a) (hdg : decode cc pc = .ok (.putfield idx, 3)) (kk : V x (fZ Z a 2 v) n0 k0 (pc + 3) L rest g) : V x Z n0 k0 pc L (va_rf v :: va_rf (some a) :: rest) g := V_putF (C := RX10) (T := TX10) (N := 10) (c := 8) (k := 2) (ty := (.object "ProvenanceTables$History")) hC tyX10 rfl rfl inX10 tyX10_ok nmX10 hz (by omega) (by omega) rfl hw rfl hin2 rfl (by decide +kernel) (rf_nar _ _) (rf_fits _ _) hA hdg kk
theorem PF8_3 (hC : Cx x cc RX10 nL) {a idx : Nat} {v : Option Nat} (hw : Cond.fieldLink RX10 idx "ProvenanceTables" "text" "LProvenanceTables$Line;" ∈ TB) (hz : zk Z a = 9) (hin2 : (xM x).name = "<init>") (hA : xA x a) (hdg : decode cc pc = .ok (.putfield idx, 3)) (kk : V x (fZ Z a 3 v) n0 k0 (pc + 3) L rest g) : V x Z n0 k0 pc L (va_rf v :: va_rf (some a) :: rest) g := V_putF (C := RX10) (T := TX10) (N := 10) (c := 8) (k := 3) (ty := (.object "ProvenanceTables$Line")) hC tyX10 rfl rfl inX10 tyX10_ok nmX10 hz (by omega) (by omega) rfl hw rfl hin2 rfl (by decide +kernel) (rf_nar _ _) (rf_fits _ _) hA hdg kk
theorem PF8_4 (hC : Cx x cc RX10 nL) {a idx : Nat} {v : Option Nat} (hw : Cond.fieldLink RX10 idx "ProvenanceTables" "paper" "LProvenanceTables$Line;" ∈ TB) (hz : zk Z a = 9) (hin2 : (xM x).name = "<init>") (hA : xA x a) (hdg : decode cc pc = .ok (.putfield idx, 3)) (kk : V x (fZ Z a 4 v) n0 k0 (pc + 3) L rest g) : V x Z n0 k0 pc L (va_rf v :: va_rf (some a) :: rest) g := V_putF (C := RX10) (T := TX10) (N := 10) (c := 8) (k := 4) (ty := (.object "ProvenanceTables$Line")) hC tyX10 rfl rfl inX10 tyX10_ok nmX10 hz (by omega) (by omega) rfl hw rfl hin2 rfl (by decide +kernel) (rf_nar _ _) (rf_fits _ _) hA hdg kk
theorem PF8_5 (hC : Cx x cc RX10 nL) {a idx : Nat} {v : Option Nat} (hw : Cond.fieldLink RX10 idx "ProvenanceTables" "draft" "LProvenanceTables$Query;" ∈ TB) (hz : zk Z a = 9) (hin2 : (xM x).name = "<init>") (hA : xA x a) (hdg : decode cc pc = .ok (.putfield idx, 3)) (kk : V x (fZ Z a 5 v) n0 k0 (pc + 3) L rest g) : V x Z n0 k0 pc L (va_rf v :: va_rf (some a) :: rest) g := V_putF (C := RX10) (T := TX10) (N := 10) (c := 8) (k := 5) (ty := (.object "ProvenanceTables$Query")) hC tyX10 rfl rfl inX10 tyX10_ok nmX10 hz (by omega) (by omega) rfl hw rfl hin2 rfl (by decide +kernel) (rf_nar _ _) (rf_fits _ _) hA hdg kk
theorem PF8_6 (hC : Cx x cc RX10 nL) {a idx : Nat} {v : Option Nat} (hw : Cond.fieldLink RX10 idx "ProvenanceTables" "current" "LProvenanceTables$Query;" ∈ TB) (hz : zk Z a = 9) (hin2 : (xM x).name = "<init>") (hA : xA x a) (hdg : decode cc pc = .ok (.putfield idx, 3)) (kk : V x (fZ Z a 6 v) n0 k0 (pc + 3) L rest g) : V x Z n0 k0 pc L (va_rf v :: va_rf (some a) :: rest) g := V_putF (C := RX10) (T := TX10) (N := 10) (c := 8) (k := 6) (ty := (.object "ProvenanceTables$Query")) hC tyX10 rfl rfl inX10 tyX10_ok nmX10 hz (by omega) (by omega) rfl hw rfl hin2 rfl (by decide +kernel) (rf_nar _ _) (rf_fits _ _) hA hdg kk
theorem PF8_7 (hC : Cx x cc RX10 nL) {a idx : Nat} {v : Option Nat} (hw : Cond.fieldLink RX10 idx "ProvenanceTables" "evaluator" "LProvenanceTables$Evaluator;" ∈ TB) (hz : zk Z a = 9) (hin2 : (xM x).name = "<init>") (hA : xA x a) (hdg : decode cc pc = .ok (.putfield idx, 3)) (kk : V x (fZ Z a 7 v) n0 k0 (pc + 3) L rest g) : V x Z n0 k0 pc L (va_rf v :: va_rf (some a) :: rest) g := V_putF (C := RX10) (T := TX10) (N := 10) (c := 8) (k := 7) (ty := (.object "ProvenanceTables$Evaluator")) hC tyX10 rfl rfl inX10 tyX10_ok nmX10 hz (by omega) (by omega) rfl hw rfl hin2 rfl (by decide +kernel) (rf_nar _ _) (rf_fits _ _) hA hdg kk
theorem PF8_8 (hC : Cx x cc RX10 nL) {a idx : Nat} {v : Option Nat} (hw : Cond.fieldLink RX10 idx "ProvenanceTables" "shown" "LProvenanceTables$Polynomial;" ∈ TB) (hz : zk Z a = 9) (hin2 : (xM x).name = "<init>") (hA : xA x a) (hdg : decode cc pc = .ok (.putfield idx, 3)) (kk : V x (fZ Z a 8 v) n0 k0 (pc + 3) L rest g) : V x Z n0 k0 pc L (va_rf v :: va_rf (some a) :: rest) g := V_putF (C := RX10) (T := TX10) (N := 10) (c := 8) (k := 8) (ty := (.object "ProvenanceTables$Polynomial")) hC tyX10 rfl rfl inX10 tyX10_ok nmX10 hz (by omega) (by omega) rfl hw rfl hin2 rfl (by decide +kernel) (rf_nar _ _) (rf_fits _ _) hA hdg kk
theorem PF8_9 (hC : Cx x cc RX10 nL) {a idx : Nat} {v : Option Nat} (hw : Cond.fieldLink RX10 idx "ProvenanceTables" "tagSets" "LProvenanceTables$TagSets;" ∈ TB) (hz : zk Z a = 9) (hin2 : (xM x).name = "<init>") (hA : xA x a) (hdg : decode cc pc = .ok (.putfield idx, 3)) (kk : V x (fZ Z a 9 v) n0 k0 (pc + 3) L rest g) : V x Z n0 k0 pc L (va_rf v :: va_rf (some a) :: rest) g := V_putF (C := RX10) (T := TX10) (N := 10) (c := 8) (k := 9) (ty := (.object "ProvenanceTables$TagSets")) hC tyX10 rfl rfl inX10 tyX10_ok nmX10 hz (by omega) (by omega) rfl hw rfl hin2 rfl (by decide +kernel) (rf_nar _ _) (rf_fits _ _) hA hdg kk
theorem N0 {own : String} (hC : Cx x cc own nL) {q idx : Nat} (hw : Cond.classLink own idx RX0 ∈ TB) (hq : (xH x).size + n0 = q) (hr : n0 + 1 ≤ (xR x).cells ∧ k0 + 4 ≤ (xR x).slots) (hdg : decode cc pc = .ok (.new idx, 3)) (kk : V x (nO Z q 0) (n0 + 1) (k0 + 4) (pc + 3) L (va_rf (some q) :: rest) (zr g q)) : V x Z n0 k0 pc L rest g := V_new (C := RX0) (T := TX0) (N := 4) (c := 0) hC tyX0 tyX0_ok rfl rfl (by omega) inX0 hw tw_1800 tw_104 (by decide +kernel) hq hr hdg kk
theorem N1 {own : String} (hC : Cx x cc own nL) {q idx : Nat} (hw : Cond.classLink own idx RX1 ∈ TB) (hq : (xH x).size + n0 = q) (hr : n0 + 1 ≤ (xR x).cells ∧ k0 + 2 ≤ (xR x).slots) (hdg : decode cc pc = .ok (.new idx, 3)) (kk : V x (nO Z q 1) (n0 + 1) (k0 + 2) (pc + 3) L (va_rf (some q) :: rest) (zr g q)) : V x Z n0 k0 pc L rest g := V_new (C := RX1) (T := TX1) (N := 2) (c := 1) hC tyX1 tyX1_ok rfl rfl (by omega) inX1 hw tw_1786 tw_840 (by decide +kernel) hq hr hdg kk
theorem N2 {own : String} (hC : Cx x cc own nL) {q idx : Nat} (hw : Cond.classLink own idx RX3 ∈ TB) (hq : (xH x).size + n0 = q) (hr : n0 + 1 ≤ (xR x).cells ∧ k0 + 2 ≤ (xR x).slots) (hdg : decode cc pc = .ok (.new idx, 3)) (kk : V x (nO Z q 2) (n0 + 1) (k0 + 2) (pc + 3) L (va_rf (some q) :: rest) (zr g q)) : V x Z n0 k0 pc L rest g := V_new (C := RX3) (T := TX3) (N := 2) (c := 2) hC tyX3 tyX3_ok rfl rfl (by omega) inX3 hw tw_1790 tw_84 (by decide +kernel) hq hr hdg kk
theorem N3 {own : String} (hC : Cx x cc own nL) {q idx : Nat} (hw : Cond.classLink own idx RX5 ∈ TB) (hq : (xH x).size + n0 = q) (hr : n0 + 1 ≤ (xR x).cells ∧ k0 + 3 ≤ (xR x).slots) (hdg : decode cc pc = .ok (.new idx, 3)) (kk : V x (nO Z q 3) (n0 + 1) (k0 + 3) (pc + 3) L (va_rf (some q) :: rest) (zr g q)) : V x Z n0 k0 pc L rest g := V_new (C := RX5) (T := TX5) (N := 3) (c := 3) hC tyX5 tyX5_ok rfl rfl (by omega) inX5 hw tw_1804 tw_148 (by decide +kernel) hq hr hdg kk
theorem N4 {own : String} (hC : Cx x cc own nL) {q idx : Nat} (hw : Cond.classLink own idx RX6 ∈ TB) (hq : (xH x).size + n0 = q) (hr : n0 + 1 ≤ (xR x).cells ∧ k0 + 10 ≤ (xR x).slots) (hdg : decode cc pc = .ok (.new idx, 3)) (kk : V x (nO Z q 4) (n0 + 1) (k0 + 10) (pc + 3) L (va_rf (some q) :: rest) (zr g q)) : V x Z n0 k0 pc L rest g := V_new (C := RX6) (T := TX6) (N := 10) (c := 4) hC tyX6 tyX6_ok rfl rfl (by omega) inX6 hw tw_1795 tw_592 (by decide +kernel) hq hr hdg kk
theorem N5 {own : String} (hC : Cx x cc own nL) {q idx : Nat} (hw : Cond.classLink own idx RX7 ∈ TB) (hq : (xH x).size + n0 = q) (hr : n0 + 1 ≤ (xR x).cells ∧ k0 + 4 ≤ (xR x).slots) (hdg : decode cc pc = .ok (.new idx, 3)) (kk : V x (nO Z q 5) (n0 + 1) (k0 + 4) (pc + 3) L (va_rf (some q) :: rest) (zr g q)) : V x Z n0 k0 pc L rest g := V_new (C := RX7) (T := TX7) (N := 4) (c := 5) hC tyX7 tyX7_ok rfl rfl (by omega) inX7 hw tw_1854 tw_110 (by decide +kernel) hq hr hdg kk
theorem N6 {own : String} (hC : Cx x cc own nL) {q idx : Nat} (hw : Cond.classLink own idx RX8 ∈ TB) (hq : (xH x).size + n0 = q) (hr : n0 + 1 ≤ (xR x).cells ∧ k0 + 8 ≤ (xR x).slots) (hdg : decode cc pc = .ok (.new idx, 3)) (kk : V x (nO Z q 6) (n0 + 1) (k0 + 8) (pc + 3) L (va_rf (some q) :: rest) (zr g q)) : V x Z n0 k0 pc L rest g := V_new (C := RX8) (T := TX8) (N := 8) (c := 6) hC tyX8 tyX8_ok rfl rfl (by omega) inX8 hw tw_1781 tw_14 (by decide +kernel) hq hr hdg kk
theorem N7 {own : String} (hC : Cx x cc own nL) {q idx : Nat} (hw : Cond.classLink own idx RX9 ∈ TB) (hq : (xH x).size + n0 = q) (hr : n0 + 1 ≤ (xR x).cells ∧ k0 + 4 ≤ (xR x).slots) (hdg : decode cc pc = .ok (.new idx, 3)) (kk : V x (nO Z q 7) (n0 + 1) (k0 + 4) (pc + 3) L (va_rf (some q) :: rest) (zr g q)) : V x Z n0 k0 pc L rest g := V_new (C := RX9) (T := TX9) (N := 4) (c := 7) hC tyX9 tyX9_ok rfl rfl (by omega) inX9 hw tw_1808 tw_478 (by decide +kernel) hq hr hdg kk
theorem N8 {own : String} (hC : Cx x cc own nL) {q idx : Nat} (hw : Cond.classLink own idx RX10 ∈ TB) (hq : (xH x).size + n0 = q) (hr : n0 + 1 ≤ (xR x).cells ∧ k0 + 10 ≤ (xR x).slots) (hdg : decode cc pc = .ok (.new idx, 3)) (kk : V x (nO Z q 8) (n0 + 1) (k0 + 10) (pc + 3) L (va_rf (some q) :: rest) (zr g q)) : V x Z n0 k0 pc L rest g := V_new (C := RX10) (T := TX10) (N := 10) (c := 8) hC tyX10 tyX10_ok rfl rfl (by omega) inX10 hw tw_1771 tw_5 (by decide +kernel) hq hr hdg kk
theorem A0 {own : String} (hC : Cx x cc own nL) {q N : Nat} {n : Int32} (hN : n.toNatClampNeg = N) (hn : ¬ n < 0 ∧ N ≤ 65536) (hq : (xH x).size + n0 = q) (hr : n0 + 1 ≤ (xR x).cells ∧ k0 + N ≤ (xR x).slots) (hdg : decode cc pc = .ok (.newarray .char, 2)) (kk : V x (nA Z q 11 N) (n0 + 1) (k0 + N) (pc + 2) L (va_rf (some q) :: rest) (zr g q)) : V x Z n0 k0 pc L (.int n :: rest) g := by
  subst hN
  exact V_newa (atype := .char) (ty := .char) (t := 0) hC tw_1830 rfl (by omega) rfl (fun U cA h => h) (fun g q j => by simp [ev, gI_zr, gJ_zr, gP_zr, defaultValue]) (by decide) hn hq hr hdg kk
theorem A1 {own : String} (hC : Cx x cc own nL) {q N : Nat} {n : Int32} (hN : n.toNatClampNeg = N) (hn : ¬ n < 0 ∧ N ≤ 65536) (hq : (xH x).size + n0 = q) (hr : n0 + 1 ≤ (xR x).cells ∧ k0 + N ≤ (xR x).slots) (hdg : decode cc pc = .ok (.newarray .int, 2)) (kk : V x (nA Z q 12 N) (n0 + 1) (k0 + N) (pc + 2) L (va_rf (some q) :: rest) (zr g q)) : V x Z n0 k0 pc L (.int n :: rest) g := by
  subst hN
  exact V_newa (atype := .int) (ty := .int) (t := 1) hC tw_1773 rfl (by omega) rfl (fun U cA h => h) (fun g q j => by simp [ev, gI_zr, gJ_zr, gP_zr, defaultValue]) (by decide) hn hq hr hdg kk
theorem A2 {own : String} (hC : Cx x cc own nL) {q N : Nat} {n : Int32} (hN : n.toNatClampNeg = N) (hn : ¬ n < 0 ∧ N ≤ 65536) (hq : (xH x).size + n0 = q) (hr : n0 + 1 ≤ (xR x).cells ∧ k0 + N ≤ (xR x).slots) (hdg : decode cc pc = .ok (.newarray .long, 2)) (kk : V x (nA Z q 13 N) (n0 + 1) (k0 + N) (pc + 2) L (va_rf (some q) :: rest) (zr g q)) : V x Z n0 k0 pc L (.int n :: rest) g := by
  subst hN
  exact V_newa (atype := .long) (ty := .long) (t := 2) hC tw_1868 rfl (by omega) rfl (fun U cA h => h) (fun g q j => by simp [ev, gI_zr, gJ_zr, gP_zr, defaultValue]) (by decide) hn hq hr hdg kk
theorem A4 {own : String} (hC : Cx x cc own nL) {q idx N : Nat} {n : Int32} (hw : Cond.classLink own idx RX5 ∈ TB) (hN : n.toNatClampNeg = N) (hn : ¬ n < 0 ∧ N ≤ 65536) (hq : (xH x).size + n0 = q) (hr : n0 + 1 ≤ (xR x).cells ∧ k0 + N ≤ (xR x).slots) (hdg : decode cc pc = .ok (.anewarray idx, 3)) (kk : V x (nA Z q 15 N) (n0 + 1) (k0 + N) (pc + 3) L (va_rf (some q) :: rest) (zr g q)) : V x Z n0 k0 pc L (.int n :: rest) g := by
  subst hN
  exact V_anew (C := RX5) (t := 4) hC hw hC.K.2.2.1 (by omega) (by omega) rfl hn hq hr hdg kk
theorem A5 {own : String} (hC : Cx x cc own nL) {q idx N : Nat} {n : Int32} (hw : Cond.classLink own idx RX7 ∈ TB) (hN : n.toNatClampNeg = N) (hn : ¬ n < 0 ∧ N ≤ 65536) (hq : (xH x).size + n0 = q) (hr : n0 + 1 ≤ (xR x).cells ∧ k0 + N ≤ (xR x).slots) (hdg : decode cc pc = .ok (.anewarray idx, 3)) (kk : V x (nA Z q 16 N) (n0 + 1) (k0 + N) (pc + 3) L (va_rf (some q) :: rest) (zr g q)) : V x Z n0 k0 pc L (.int n :: rest) g := by
  subst hN
  exact V_anew (C := RX7) (t := 5) hC hw hC.K.2.2.2.1 (by omega) (by omega) rfl hn hq hr hdg kk
theorem A6 {own : String} (hC : Cx x cc own nL) {q idx N : Nat} {n : Int32} (hw : Cond.classLink own idx RX8 ∈ TB) (hN : n.toNatClampNeg = N) (hn : ¬ n < 0 ∧ N ≤ 65536) (hq : (xH x).size + n0 = q) (hr : n0 + 1 ≤ (xR x).cells ∧ k0 + N ≤ (xR x).slots) (hdg : decode cc pc = .ok (.anewarray idx, 3)) (kk : V x (nA Z q 17 N) (n0 + 1) (k0 + N) (pc + 3) L (va_rf (some q) :: rest) (zr g q)) : V x Z n0 k0 pc L (.int n :: rest) g := by
  subst hN
  exact V_anew (C := RX8) (t := 6) hC hw hC.K.2.2.2.2 (by omega) (by omega) rfl hn hq hr hdg kk
end FINALS

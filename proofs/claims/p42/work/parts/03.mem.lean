/-! MEMORY BY FIELD: what the cells hold, as three functions; what stays (kinds, lengths, final references) apart -/
abbrev Mem : Type := (Nat → Nat → Int32) × (Nat → Nat → Int64) × (Nat → Nat → Option Nat)
def gI (g : Mem) (a k : Nat) : Int32 := g.1 a k
def gJ (g : Mem) (a k : Nat) : Int64 := g.2.1 a k
def gP (g : Mem) (a k : Nat) : Option Nat := g.2.2 a k
def sI (g : Mem) (a k : Nat) (v : Int32) : Mem := (fun b j => if b = a ∧ j = k then v else g.1 b j, g.2)
def sJ (g : Mem) (a k : Nat) (v : Int64) : Mem := (g.1, fun b j => if b = a ∧ j = k then v else g.2.1 b j, g.2.2)
def sP (g : Mem) (a k : Nat) (v : Option Nat) : Mem := (g.1, g.2.1, fun b j => if b = a ∧ j = k then v else g.2.2 b j)
theorem gI_sI (g : Mem) (a k b j : Nat) (v : Int32) : gI (sI g a k v) b j = if b = a ∧ j = k then v else gI g b j := rfl
theorem gJ_sI (g : Mem) (a k b j : Nat) (v : Int32) : gJ (sI g a k v) b j = gJ g b j := rfl
theorem gP_sI (g : Mem) (a k b j : Nat) (v : Int32) : gP (sI g a k v) b j = gP g b j := rfl
theorem gI_sJ (g : Mem) (a k b j : Nat) (v : Int64) : gI (sJ g a k v) b j = gI g b j := rfl
theorem gJ_sJ (g : Mem) (a k b j : Nat) (v : Int64) : gJ (sJ g a k v) b j = if b = a ∧ j = k then v else gJ g b j := rfl
theorem gP_sJ (g : Mem) (a k b j : Nat) (v : Int64) : gP (sJ g a k v) b j = gP g b j := rfl
theorem gI_sP (g : Mem) (a k b j : Nat) (v : Option Nat) : gI (sP g a k v) b j = gI g b j := rfl
theorem gJ_sP (g : Mem) (a k b j : Nat) (v : Option Nat) : gJ (sP g a k v) b j = gJ g b j := rfl
theorem gP_sP (g : Mem) (a k b j : Nat) (v : Option Nat) : gP (sP g a k v) b j = if b = a ∧ j = k then v else gP g b j := rfl
/-- kinds (0 none, c + 1 an object of class c, 11 char[], 12 int[], 13 long[], 14 boolean[], 15 to 17 arrays of Polynomial, Relation, State), lengths, final references -/
abbrev Zt : Type := (Nat → Nat) × (Nat → Nat) × (Nat → Nat → Option Nat)
def zk (Z : Zt) (a : Nat) : Nat := Z.1 a
def zl (Z : Zt) (a : Nat) : Nat := Z.2.1 a
def zf (Z : Zt) (a k : Nat) : Option Nat := Z.2.2 a k
def nFl : List Nat := [4, 2, 2, 3, 10, 4, 8, 4, 10, 32]
def nF (c : Nat) : Nat := nFl.getD c 0
/-- of a field: 0 a number, 1 a final reference, 2 another reference -/
def fcl : List (List Nat) := [[1, 2, 2, 0], [1, 0], [1, 0], [1, 1, 0], [1, 1, 1, 1, 1, 2, 0, 0, 0, 0], [1, 1, 0, 0], [1, 1, 1, 1, 1, 1, 0, 0], [1, 1, 1, 0], [1, 1, 1, 1, 1, 1, 1, 1, 1, 1], [1, 1, 0, 1, 0, 1, 0, 0, 0, 1, 1, 1, 0, 1, 1, 1, 1, 0, 1, 1, 1, 1, 1, 1, 0, 0, 0, 1, 1, 0, 1, 0]]
def fc (c k : Nat) : Nat := (fcl.getD c []).getD k 0
def fvl (Z : Zt) (g : Mem) (c a k : Nat) : Value := if fc c k = 0 then .int (gI g a k) else if fc c k = 1 then va_rf (zf Z a k) else va_rf (gP g a k)
def ev (t : Nat) (g : Mem) (a j : Nat) : Value := if t = 2 then .long (gJ g a j) else if 4 ≤ t then va_rf (gP g a j) else .int (gI g a j)
def tyl (xD : Nat → ClassId) : List (ClassId × FieldType) := [(xD 0, .char), (xD 1, .int), (xD 2, .long), (xD 3, .int), (xD 4, .object RX5), (xD 5, .object RX7), (xD 6, .object RX8)]
def HV (xC : Nat → ClassId) (xI : Nat → Nat → Nat) (xD : Nat → ClassId) (Z : Zt) (g : Mem) (H : Heap) : Prop :=
  (∀ a c, c < 10 → zk Z a = c + 1 → t_OB a (xC c) (nF c) (xI c) H (fvl Z g c a)) ∧ ∀ a t, t < 7 → zk Z a = t + 11 → H[a]? = some (arrV (xD t) (zl Z a) (ev t g a))
/-- what a walk stands over, but for the memory: machine, words' classes, what may be written, the end -/
abbrev Cq : Type := Program × Launch × Env × Room × State × MethodId × Array Value × List Frame × Method × Code × (Nat → ClassId) × (Nat → Nat → Nat) × (Nat → ClassId) × (Nat → Prop) × Heap × (State → Prop)
abbrev xp (x : Cq) : Program := x.1
abbrev xl (x : Cq) : Launch := x.2.1
abbrev xe (x : Cq) : Env := x.2.2.1
abbrev xR (x : Cq) : Room := x.2.2.2.1
abbrev xs (x : Cq) : State := x.2.2.2.2.1
abbrev xm (x : Cq) : MethodId := x.2.2.2.2.2.1
abbrev xa (x : Cq) : Array Value := x.2.2.2.2.2.2.1
abbrev xb (x : Cq) : List Frame := x.2.2.2.2.2.2.2.1
abbrev xM (x : Cq) : Method := x.2.2.2.2.2.2.2.2.1
abbrev xc (x : Cq) : Code := x.2.2.2.2.2.2.2.2.2.1
abbrev xC (x : Cq) : Nat → ClassId := x.2.2.2.2.2.2.2.2.2.2.1
abbrev xI (x : Cq) : Nat → Nat → Nat := x.2.2.2.2.2.2.2.2.2.2.2.1
abbrev xD (x : Cq) : Nat → ClassId := x.2.2.2.2.2.2.2.2.2.2.2.2.1
abbrev xA (x : Cq) : Nat → Prop := x.2.2.2.2.2.2.2.2.2.2.2.2.2.1
abbrev xH (x : Cq) : Heap := x.2.2.2.2.2.2.2.2.2.2.2.2.2.2.1
abbrev xQ (x : Cq) : State → Prop := x.2.2.2.2.2.2.2.2.2.2.2.2.2.2.2
/-- the memory, and how many cells there are: those of the start and what the method has made -/
def HW (x : Cq) (Z : Zt) (n : Nat) (g : Mem) (H : Heap) : Prop := HV (xC x) (xI x) (xD x) Z g H ∧ H.size = (xH x).size + n
def V (x : Cq) (Z : Zt) (n k : Nat) (pc : Nat) (L : List (Nat × Value)) (st : List Value) (g : Mem) : Prop :=
  ∀ (H : Heap) (locs : List Loc) (ls : Array Slot), lv_has ls (xc x).maxLocals L → HW x Z n g H → va_S (xA x) (xH x) H locs →
    W (xp x) (xl x) (xe x) (xR x) (xs x) (xm x) (xa x) (xb x) (xM x) (xc x) H locs n k (xQ x) (F0 (xm x) pc ls st)
/-- the method links of nest mates -/
def NW : List (String × Nat × MethodName) := [(RX8, 59, yX10_isTable), (RX10, 40, yX6_init), (RX7, 21, yX5_init), (RX10, 57, yX5_init), (RX10, 64, yX9_init)]
/-- what a method needs of the tables beside its words -/
def Kx (xC : Nat → ClassId) (xI : Nat → Nat → Nat) (xD : Nat → ClassId) (U : State) : Prop := va_K (xC, xI) vwCl (tyl xD) U ∧ (∀ q ∈ NW, va_Nw (.methodLinkNest q.1 q.2.1 q.2.2 RX10) U) ∧ va_AO RX5 U ∧ va_AO RX7 U ∧ va_AO RX8 U
theorem Kx.moved {xC : Nat → ClassId} {xI : Nat → Nat → Nat} {xD : Nat → ClassId} {s U : State} (hW : s.WarmedH U.vm) (h : Kx xC xI xD s) : Kx xC xI xD U := ⟨va_K.moved hW.alike h.1, fun q hq => va_Nw.warmM hW (h.2.1 q hq), h.2.2.1.moved hW.alike, h.2.2.2.1.moved hW.alike, h.2.2.2.2.moved hW.alike⟩
theorem Kx.same {xC : Nat → ClassId} {xI : Nat → Nat → Nat} {xD : Nat → ClassId} {u U : State} (e : u.vm = U.vm) (h : Kx xC xI xD u) : Kx xC xI xD U := ⟨va_K.moved (e ▸ Vm.Alike.refl u.vm) h.1, fun q hq => va_Nw.same rfl e (h.2.1 q hq), h.2.2.1.moved (e ▸ Vm.Alike.refl u.vm), h.2.2.2.1.moved (e ▸ Vm.Alike.refl u.vm), h.2.2.2.2.moved (e ▸ Vm.Alike.refl u.vm)⟩
def Cx (x : Cq) (cc : ByteArray) (own : String) (nL : Nat) : Prop :=
  (xp x).tables.exec = Jvm.exec ∧ (xc x).code = cc ∧ (xc x).maxLocals = nL ∧ (∀ w ∈ TB, w.before (xa x) (xs x) = true) ∧ (xs x).vm.findClass own = some (xm x).cls ∧ Kx (xC x) (xI x) (xD x) (xs x) ∧ (xM x).locks = false
theorem Cx.x {x : Cq} {cc : ByteArray} {own : String} {nL : Nat} (h : Cx x cc own nL) : (xp x).tables.exec = Jvm.exec := h.1
theorem Cx.b {x : Cq} {cc : ByteArray} {own : String} {nL : Nat} (h : Cx x cc own nL) : (xc x).code = cc := h.2.1
theorem Cx.n {x : Cq} {cc : ByteArray} {own : String} {nL : Nat} (h : Cx x cc own nL) : (xc x).maxLocals = nL := h.2.2.1
theorem Cx.w {x : Cq} {cc : ByteArray} {own : String} {nL : Nat} (h : Cx x cc own nL) : ∀ w ∈ TB, w.before (xa x) (xs x) = true := h.2.2.2.1
theorem Cx.o {x : Cq} {cc : ByteArray} {own : String} {nL : Nat} (h : Cx x cc own nL) : (xs x).vm.findClass own = some (xm x).cls := h.2.2.2.2.1
theorem Cx.k {x : Cq} {cc : ByteArray} {own : String} {nL : Nat} (h : Cx x cc own nL) : va_K (xC x, xI x) vwCl (tyl (xD x)) (xs x) := h.2.2.2.2.2.1.1
theorem Cx.K {x : Cq} {cc : ByteArray} {own : String} {nL : Nat} (h : Cx x cc own nL) : Kx (xC x) (xI x) (xD x) (xs x) := h.2.2.2.2.2.1
theorem Cx.l {x : Cq} {cc : ByteArray} {own : String} {nL : Nat} (h : Cx x cc own nL) : (xM x).locks = false := h.2.2.2.2.2.2
section VROWS
variable {x : Cq} {Z : Zt} {n0 k0 pc : Nat} {L : List (Nat × Value)} {rest : List Value} {g : Mem} {cc : ByteArray} {own : String} {nL : Nat}
theorem V_eq {L' : List (Nat × Value)} {st st' : List Value} {g' : Mem} (h1 : L' = L) (h2 : st' = st) (h3 : g' = g) (kk : V x Z n0 k0 pc L' st' g') : V x Z n0 k0 pc L st g := by
  subst h1; subst h2; subst h3; exact kk
/-- fewer locals -/
theorem V_sub {L' : List (Nat × Value)} {st : List Value} (ks : List Nat) (hl : lv_pick L ks = L') (kk : V x Z n0 k0 pc L' st g) : V x Z n0 k0 pc L st g := fun H locs ls h1 h2 h3 => kk H locs ls (lv_sub h1 ks hl) h2 h3
theorem V_iconst (hC : Cx x cc own nL) {n : Int} {v : Int32} (hdg : decode cc pc = .ok (.iconst n, 1)) (hv : Int32.ofInt n = v) (kk : V x Z n0 k0 (pc + 1) L (.int v :: rest) g) : V x Z n0 k0 pc L (rest) g := fun H locs ls h1 h2 h3 => lv_iconst hC.x hC.b hdg hv (kk H locs ls h1 h2 h3)
theorem V_bipush (hC : Cx x cc own nL) {n : Int} {v : Int32} (hdg : decode cc pc = .ok (.bipush n, 2)) (hv : (Int8.ofInt n).toInt32 = v) (kk : V x Z n0 k0 (pc + 2) L (.int v :: rest) g) : V x Z n0 k0 pc L (rest) g := fun H locs ls h1 h2 h3 => lv_bipush hC.x hC.b hdg hv (kk H locs ls h1 h2 h3)
theorem V_sipush (hC : Cx x cc own nL) {n : Int} {v : Int32} (hdg : decode cc pc = .ok (.sipush n, 3)) (hv : (Int16.ofInt n).toInt32 = v) (kk : V x Z n0 k0 (pc + 3) L (.int v :: rest) g) : V x Z n0 k0 pc L (rest) g := fun H locs ls h1 h2 h3 => lv_sipush hC.x hC.b hdg hv (kk H locs ls h1 h2 h3)
theorem V_lconst (hC : Cx x cc own nL) {n : Fin 2} {v : Int64} (hdg : decode cc pc = .ok (.lconst n, 1)) (hv : Int64.ofNat (n : Nat) = v) (kk : V x Z n0 k0 (pc + 1) L (.long v :: rest) g) : V x Z n0 k0 pc L (rest) g := fun H locs ls h1 h2 h3 => lv_lconst hC.x hC.b hdg hv (kk H locs ls h1 h2 h3)
theorem V_ldc (hC : Cx x cc own nL) {index : Nat} {v : Int32} (hw : Cond.constant own index v ∈ TB) (hdg : decode cc pc = .ok (.ldc index, 2)) (kk : V x Z n0 k0 (pc + 2) L (.int v :: rest) g) : V x Z n0 k0 pc L (rest) g := fun H locs ls h1 h2 h3 => lv_ldc hC.x hC.b hC.o (hC.w _ hw) hdg (kk H locs ls h1 h2 h3)
theorem V_ldcw (hC : Cx x cc own nL) {index : Nat} {v : Int32} (hw : Cond.constant own index v ∈ TB) (hdg : decode cc pc = .ok (.ldc_w index, 3)) (kk : V x Z n0 k0 (pc + 3) L (.int v :: rest) g) : V x Z n0 k0 pc L (rest) g := fun H locs ls h1 h2 h3 => lv_ldcw hC.x hC.b hC.o (hC.w _ hw) hdg (kk H locs ls h1 h2 h3)
theorem V_ldc2 (hC : Cx x cc own nL) {index : Nat} {v : Int64} (hw : Cond.constantLong own index v ∈ TB) (hdg : decode cc pc = .ok (.ldc2_w index, 3)) (kk : V x Z n0 k0 (pc + 3) L (.long v :: rest) g) : V x Z n0 k0 pc L (rest) g := fun H locs ls h1 h2 h3 => lv_ldc2 hC.x hC.b hC.o (hC.w _ hw) hdg (kk H locs ls h1 h2 h3)
theorem V_null (hC : Cx x cc own nL)  (hdg : decode cc pc = .ok (.aconst_null, 1)) (kk : V x Z n0 k0 (pc + 1) L (va_rf none :: rest) g) : V x Z n0 k0 pc L (rest) g := fun H locs ls h1 h2 h3 => lv_null hC.x hC.b hdg (kk H locs ls h1 h2 h3)
theorem V_iload_n (hC : Cx x cc own nL) {k : Fin 4} {i : Nat} (j : Nat) {a : Int32} (hdg : decode cc pc = .ok (.iload_n k, 1)) (hi : (k : Nat) = i) (hl : L[j]? = some (i, .int a)) (kk : V x Z n0 k0 (pc + 1) L (.int a :: rest) g) : V x Z n0 k0 pc L rest g := fun H locs ls h1 h2 h3 => lv_iload_n hC.x hC.b hdg hi (lv_at h1 j hl) (kk H locs ls h1 h2 h3)
theorem V_iload (hC : Cx x cc own nL) {i : Nat} (j : Nat) {a : Int32} (hdg : decode cc pc = .ok (.iload i, 2)) (hl : L[j]? = some (i, .int a)) (kk : V x Z n0 k0 (pc + 2) L (.int a :: rest) g) : V x Z n0 k0 pc L rest g := fun H locs ls h1 h2 h3 => lv_iload hC.x hC.b hdg (lv_at h1 j hl) (kk H locs ls h1 h2 h3)
theorem V_lload_n (hC : Cx x cc own nL) {k : Fin 4} {i : Nat} (j : Nat) {a : Int64} (hdg : decode cc pc = .ok (.lload_n k, 1)) (hi : (k : Nat) = i) (hl : L[j]? = some (i, .long a)) (kk : V x Z n0 k0 (pc + 1) L (.long a :: rest) g) : V x Z n0 k0 pc L rest g := fun H locs ls h1 h2 h3 => lv_lload_n hC.x hC.b hdg hi (lv_at h1 j hl) (kk H locs ls h1 h2 h3)
theorem V_lload (hC : Cx x cc own nL) {i : Nat} (j : Nat) {a : Int64} (hdg : decode cc pc = .ok (.lload i, 2)) (hl : L[j]? = some (i, .long a)) (kk : V x Z n0 k0 (pc + 2) L (.long a :: rest) g) : V x Z n0 k0 pc L rest g := fun H locs ls h1 h2 h3 => lv_lload hC.x hC.b hdg (lv_at h1 j hl) (kk H locs ls h1 h2 h3)
theorem V_fload_n (hC : Cx x cc own nL) {k : Fin 4} {i : Nat} (j : Nat) {a : UInt32} (hdg : decode cc pc = .ok (.fload_n k, 1)) (hi : (k : Nat) = i) (hl : L[j]? = some (i, .float a)) (kk : V x Z n0 k0 (pc + 1) L (.float a :: rest) g) : V x Z n0 k0 pc L rest g := fun H locs ls h1 h2 h3 => lv_fload_n hC.x hC.b hdg hi (lv_at h1 j hl) (kk H locs ls h1 h2 h3)
theorem V_fload (hC : Cx x cc own nL) {i : Nat} (j : Nat) {a : UInt32} (hdg : decode cc pc = .ok (.fload i, 2)) (hl : L[j]? = some (i, .float a)) (kk : V x Z n0 k0 (pc + 2) L (.float a :: rest) g) : V x Z n0 k0 pc L rest g := fun H locs ls h1 h2 h3 => lv_fload hC.x hC.b hdg (lv_at h1 j hl) (kk H locs ls h1 h2 h3)
theorem V_aload_n (hC : Cx x cc own nL) {k : Fin 4} {i : Nat} (j : Nat) {a : Option Nat} (hdg : decode cc pc = .ok (.aload_n k, 1)) (hi : (k : Nat) = i) (hl : L[j]? = some (i, va_rf a)) (kk : V x Z n0 k0 (pc + 1) L (va_rf a :: rest) g) : V x Z n0 k0 pc L rest g := by
  intro H locs ls h1 h2 h3
  cases a with
  | none => exact lv_aload_nN hC.x hC.b hdg hi (lv_at h1 j hl) (kk H locs ls h1 h2 h3)
  | some a => exact lv_aload_n hC.x hC.b hdg hi (lv_at h1 j hl) (kk H locs ls h1 h2 h3)
theorem V_aload (hC : Cx x cc own nL) {i : Nat} (j : Nat) {a : Option Nat} (hdg : decode cc pc = .ok (.aload i, 2)) (hl : L[j]? = some (i, va_rf a)) (kk : V x Z n0 k0 (pc + 2) L (va_rf a :: rest) g) : V x Z n0 k0 pc L rest g := by
  intro H locs ls h1 h2 h3
  cases a with
  | none => exact lv_aloadN hC.x hC.b hdg (lv_at h1 j hl) (kk H locs ls h1 h2 h3)
  | some a => exact lv_aload hC.x hC.b hdg (lv_at h1 j hl) (kk H locs ls h1 h2 h3)
theorem V_istore_n (hC : Cx x cc own nL) {k : Fin 4} {i : Nat} {a : Int32} {L' : List (Nat × Value)} (hdg : decode cc pc = .ok (.istore_n k, 1)) (hi : (k : Nat) = i) (hn : i < nL) (hl : (i, Value.int a) :: L.filter (fun q => !(q.1 == i) && !(q.1 + 1 == i && q.2.category == 2)) = L') (kk : V x Z n0 k0 (pc + 1) L' rest g) : V x Z n0 k0 pc L (.int a :: rest) g := fun H locs ls h1 h2 h3 => lv_istore_n hC.x hC.b hdg hi h1 (by rw [hC.n]; exact hn) hl (fun ls' h' => kk H locs ls' h' h2 h3)
theorem V_istore (hC : Cx x cc own nL) {i : Nat} {a : Int32} {L' : List (Nat × Value)} (hdg : decode cc pc = .ok (.istore i, 2)) (hn : i < nL) (hl : (i, Value.int a) :: L.filter (fun q => !(q.1 == i) && !(q.1 + 1 == i && q.2.category == 2)) = L') (kk : V x Z n0 k0 (pc + 2) L' rest g) : V x Z n0 k0 pc L (.int a :: rest) g := fun H locs ls h1 h2 h3 => lv_istore hC.x hC.b hdg h1 (by rw [hC.n]; exact hn) hl (fun ls' h' => kk H locs ls' h' h2 h3)
theorem V_lstore_n (hC : Cx x cc own nL) {k : Fin 4} {i : Nat} {a : Int64} {L' : List (Nat × Value)} (hdg : decode cc pc = .ok (.lstore_n k, 1)) (hi : (k : Nat) = i) (hn : i + 1 < nL) (hl : (i, Value.long a) :: L.filter (fun q => !(q.1 == i) && (!(q.1 == i + 1) && !(q.1 + 1 == i && q.2.category == 2))) = L') (kk : V x Z n0 k0 (pc + 1) L' rest g) : V x Z n0 k0 pc L (.long a :: rest) g := fun H locs ls h1 h2 h3 => lv_lstore_n hC.x hC.b hdg hi h1 (by rw [hC.n]; exact hn) hl (fun ls' h' => kk H locs ls' h' h2 h3)
theorem V_lstore (hC : Cx x cc own nL) {i : Nat} {a : Int64} {L' : List (Nat × Value)} (hdg : decode cc pc = .ok (.lstore i, 2)) (hn : i + 1 < nL) (hl : (i, Value.long a) :: L.filter (fun q => !(q.1 == i) && (!(q.1 == i + 1) && !(q.1 + 1 == i && q.2.category == 2))) = L') (kk : V x Z n0 k0 (pc + 2) L' rest g) : V x Z n0 k0 pc L (.long a :: rest) g := fun H locs ls h1 h2 h3 => lv_lstore hC.x hC.b hdg h1 (by rw [hC.n]; exact hn) hl (fun ls' h' => kk H locs ls' h' h2 h3)
theorem V_fstore_n (hC : Cx x cc own nL) {k : Fin 4} {i : Nat} {a : UInt32} {L' : List (Nat × Value)} (hdg : decode cc pc = .ok (.fstore_n k, 1)) (hi : (k : Nat) = i) (hn : i < nL) (hl : (i, Value.float a) :: L.filter (fun q => !(q.1 == i) && !(q.1 + 1 == i && q.2.category == 2)) = L') (kk : V x Z n0 k0 (pc + 1) L' rest g) : V x Z n0 k0 pc L (.float a :: rest) g := fun H locs ls h1 h2 h3 => lv_fstore_n hC.x hC.b hdg hi h1 (by rw [hC.n]; exact hn) hl (fun ls' h' => kk H locs ls' h' h2 h3)
theorem V_fstore (hC : Cx x cc own nL) {i : Nat} {a : UInt32} {L' : List (Nat × Value)} (hdg : decode cc pc = .ok (.fstore i, 2)) (hn : i < nL) (hl : (i, Value.float a) :: L.filter (fun q => !(q.1 == i) && !(q.1 + 1 == i && q.2.category == 2)) = L') (kk : V x Z n0 k0 (pc + 2) L' rest g) : V x Z n0 k0 pc L (.float a :: rest) g := fun H locs ls h1 h2 h3 => lv_fstore hC.x hC.b hdg h1 (by rw [hC.n]; exact hn) hl (fun ls' h' => kk H locs ls' h' h2 h3)
theorem V_astore_n (hC : Cx x cc own nL) {k : Fin 4} {i : Nat} {a : Option Nat} {L' : List (Nat × Value)} (hdg : decode cc pc = .ok (.astore_n k, 1)) (hi : (k : Nat) = i) (hn : i < nL) (hl : (i, va_rf a) :: L.filter (fun q => !(q.1 == i) && !(q.1 + 1 == i && q.2.category == 2)) = L') (kk : V x Z n0 k0 (pc + 1) L' rest g) : V x Z n0 k0 pc L (va_rf a :: rest) g := by
  intro H locs ls h1 h2 h3
  cases a with
  | none => exact lv_astore_nN hC.x hC.b hdg hi h1 (by rw [hC.n]; exact hn) hl (fun ls' h' => kk H locs ls' h' h2 h3)
  | some a => exact lv_astore_n hC.x hC.b hdg hi h1 (by rw [hC.n]; exact hn) hl (fun ls' h' => kk H locs ls' h' h2 h3)
theorem V_astore (hC : Cx x cc own nL) {i : Nat} {a : Option Nat} {L' : List (Nat × Value)} (hdg : decode cc pc = .ok (.astore i, 2)) (hn : i < nL) (hl : (i, va_rf a) :: L.filter (fun q => !(q.1 == i) && !(q.1 + 1 == i && q.2.category == 2)) = L') (kk : V x Z n0 k0 (pc + 2) L' rest g) : V x Z n0 k0 pc L (va_rf a :: rest) g := by
  intro H locs ls h1 h2 h3
  cases a with
  | none => exact lv_astoreN hC.x hC.b hdg h1 (by rw [hC.n]; exact hn) hl (fun ls' h' => kk H locs ls' h' h2 h3)
  | some a => exact lv_astore hC.x hC.b hdg h1 (by rw [hC.n]; exact hn) hl (fun ls' h' => kk H locs ls' h' h2 h3)
theorem V_iinc (hC : Cx x cc own nL) {i : Nat} (j : Nat) {n : Int} {a v : Int32} {L' : List (Nat × Value)} (hdg : decode cc pc = .ok (.iinc i n, 3)) (hk : L[j]? = some (i, .int a)) (hv : a + Int32.ofInt n = v) (hn : i < nL) (hl : (i, Value.int v) :: L.filter (fun q => !(q.1 == i) && !(q.1 + 1 == i && q.2.category == 2)) = L') (kk : V x Z n0 k0 (pc + 3) L' rest g) : V x Z n0 k0 pc L rest g := fun H locs ls h1 h2 h3 => lv_iinc hC.x hC.b hdg h1 hk hv (by rw [hC.n]; exact hn) hl (fun ls' h' => kk H locs ls' h' h2 h3)
theorem V_iadd (hC : Cx x cc own nL) {a b : Int32} (hdg : decode cc pc = .ok (.iadd, 1)) (kk : V x Z n0 k0 (pc + 1) L (.int (a + b) :: rest) g) : V x Z n0 k0 pc L (.int b :: .int a :: rest) g := fun H locs ls h1 h2 h3 => lv_iadd hC.x hC.b hdg (kk H locs ls h1 h2 h3)
theorem V_isub (hC : Cx x cc own nL) {a b : Int32} (hdg : decode cc pc = .ok (.isub, 1)) (kk : V x Z n0 k0 (pc + 1) L (.int (a - b) :: rest) g) : V x Z n0 k0 pc L (.int b :: .int a :: rest) g := fun H locs ls h1 h2 h3 => lv_isub hC.x hC.b hdg (kk H locs ls h1 h2 h3)
theorem V_imul (hC : Cx x cc own nL) {a b : Int32} (hdg : decode cc pc = .ok (.imul, 1)) (kk : V x Z n0 k0 (pc + 1) L (.int (a * b) :: rest) g) : V x Z n0 k0 pc L (.int b :: .int a :: rest) g := fun H locs ls h1 h2 h3 => lv_imul hC.x hC.b hdg (kk H locs ls h1 h2 h3)
theorem V_iand (hC : Cx x cc own nL) {a b : Int32} (hdg : decode cc pc = .ok (.iand, 1)) (kk : V x Z n0 k0 (pc + 1) L (.int (a &&& b) :: rest) g) : V x Z n0 k0 pc L (.int b :: .int a :: rest) g := fun H locs ls h1 h2 h3 => lv_iand hC.x hC.b hdg (kk H locs ls h1 h2 h3)
theorem V_ior (hC : Cx x cc own nL) {a b : Int32} (hdg : decode cc pc = .ok (.ior, 1)) (kk : V x Z n0 k0 (pc + 1) L (.int (a ||| b) :: rest) g) : V x Z n0 k0 pc L (.int b :: .int a :: rest) g := fun H locs ls h1 h2 h3 => lv_ior hC.x hC.b hdg (kk H locs ls h1 h2 h3)
theorem V_ixor (hC : Cx x cc own nL) {a b : Int32} (hdg : decode cc pc = .ok (.ixor, 1)) (kk : V x Z n0 k0 (pc + 1) L (.int (a ^^^ b) :: rest) g) : V x Z n0 k0 pc L (.int b :: .int a :: rest) g := fun H locs ls h1 h2 h3 => lv_ixor hC.x hC.b hdg (kk H locs ls h1 h2 h3)
theorem V_ladd (hC : Cx x cc own nL) {a b : Int64} (hdg : decode cc pc = .ok (.ladd, 1)) (kk : V x Z n0 k0 (pc + 1) L (.long (a + b) :: rest) g) : V x Z n0 k0 pc L (.long b :: .long a :: rest) g := fun H locs ls h1 h2 h3 => lv_ladd hC.x hC.b hdg (kk H locs ls h1 h2 h3)
theorem V_lsub (hC : Cx x cc own nL) {a b : Int64} (hdg : decode cc pc = .ok (.lsub, 1)) (kk : V x Z n0 k0 (pc + 1) L (.long (a - b) :: rest) g) : V x Z n0 k0 pc L (.long b :: .long a :: rest) g := fun H locs ls h1 h2 h3 => lv_lsub hC.x hC.b hdg (kk H locs ls h1 h2 h3)
theorem V_lmul (hC : Cx x cc own nL) {a b : Int64} (hdg : decode cc pc = .ok (.lmul, 1)) (kk : V x Z n0 k0 (pc + 1) L (.long (a * b) :: rest) g) : V x Z n0 k0 pc L (.long b :: .long a :: rest) g := fun H locs ls h1 h2 h3 => lv_lmul hC.x hC.b hdg (kk H locs ls h1 h2 h3)
theorem V_land (hC : Cx x cc own nL) {a b : Int64} (hdg : decode cc pc = .ok (.land, 1)) (kk : V x Z n0 k0 (pc + 1) L (.long (a &&& b) :: rest) g) : V x Z n0 k0 pc L (.long b :: .long a :: rest) g := fun H locs ls h1 h2 h3 => lv_land hC.x hC.b hdg (kk H locs ls h1 h2 h3)
theorem V_lor (hC : Cx x cc own nL) {a b : Int64} (hdg : decode cc pc = .ok (.lor, 1)) (kk : V x Z n0 k0 (pc + 1) L (.long (a ||| b) :: rest) g) : V x Z n0 k0 pc L (.long b :: .long a :: rest) g := fun H locs ls h1 h2 h3 => lv_lor hC.x hC.b hdg (kk H locs ls h1 h2 h3)
theorem V_lxor (hC : Cx x cc own nL) {a b : Int64} (hdg : decode cc pc = .ok (.lxor, 1)) (kk : V x Z n0 k0 (pc + 1) L (.long (a ^^^ b) :: rest) g) : V x Z n0 k0 pc L (.long b :: .long a :: rest) g := fun H locs ls h1 h2 h3 => lv_lxor hC.x hC.b hdg (kk H locs ls h1 h2 h3)
theorem V_idiv (hC : Cx x cc own nL) {a b : Int32} (hdg : decode cc pc = .ok (.idiv, 1)) (hne : ¬ b = 0) (kk : V x Z n0 k0 (pc + 1) L (.int (a / b) :: rest) g) : V x Z n0 k0 pc L (.int b :: .int a :: rest) g := fun H locs ls h1 h2 h3 => lv_idiv hC.x hC.b hdg hne (kk H locs ls h1 h2 h3)
theorem V_irem (hC : Cx x cc own nL) {a b : Int32} (hdg : decode cc pc = .ok (.irem, 1)) (hne : ¬ b = 0) (kk : V x Z n0 k0 (pc + 1) L (.int (a - a / b * b) :: rest) g) : V x Z n0 k0 pc L (.int b :: .int a :: rest) g := fun H locs ls h1 h2 h3 => lv_irem hC.x hC.b hdg hne (kk H locs ls h1 h2 h3)
theorem V_ldiv (hC : Cx x cc own nL) {a b : Int64} (hdg : decode cc pc = .ok (.ldiv, 1)) (hne : ¬ b = 0) (kk : V x Z n0 k0 (pc + 1) L (.long (a / b) :: rest) g) : V x Z n0 k0 pc L (.long b :: .long a :: rest) g := fun H locs ls h1 h2 h3 => lv_ldiv hC.x hC.b hdg hne (kk H locs ls h1 h2 h3)
theorem V_lrem (hC : Cx x cc own nL) {a b : Int64} (hdg : decode cc pc = .ok (.lrem, 1)) (hne : ¬ b = 0) (kk : V x Z n0 k0 (pc + 1) L (.long (a - a / b * b) :: rest) g) : V x Z n0 k0 pc L (.long b :: .long a :: rest) g := fun H locs ls h1 h2 h3 => lv_lrem hC.x hC.b hdg hne (kk H locs ls h1 h2 h3)
theorem V_ishl (hC : Cx x cc own nL) {a b : Int32} (hdg : decode cc pc = .ok (.ishl, 1)) (kk : V x Z n0 k0 (pc + 1) L (.int (a <<< (b &&& 31)) :: rest) g) : V x Z n0 k0 pc L (.int b :: .int a :: rest) g := fun H locs ls h1 h2 h3 => lv_ishl hC.x hC.b hdg (kk H locs ls h1 h2 h3)
theorem V_ishr (hC : Cx x cc own nL) {a b : Int32} (hdg : decode cc pc = .ok (.ishr, 1)) (kk : V x Z n0 k0 (pc + 1) L (.int (a >>> (b &&& 31)) :: rest) g) : V x Z n0 k0 pc L (.int b :: .int a :: rest) g := fun H locs ls h1 h2 h3 => lv_ishr hC.x hC.b hdg (kk H locs ls h1 h2 h3)
theorem V_lshl (hC : Cx x cc own nL) {a : Int64} {b : Int32} (hdg : decode cc pc = .ok (.lshl, 1)) (kk : V x Z n0 k0 (pc + 1) L (.long (a <<< (b.toInt64 &&& 63)) :: rest) g) : V x Z n0 k0 pc L (.int b :: .long a :: rest) g := fun H locs ls h1 h2 h3 => lv_lshl hC.x hC.b hdg rfl (kk H locs ls h1 h2 h3)
theorem V_lshr (hC : Cx x cc own nL) {a : Int64} {b : Int32} (hdg : decode cc pc = .ok (.lshr, 1)) (kk : V x Z n0 k0 (pc + 1) L (.long (a >>> (b.toInt64 &&& 63)) :: rest) g) : V x Z n0 k0 pc L (.int b :: .long a :: rest) g := fun H locs ls h1 h2 h3 => lv_lshr hC.x hC.b hdg rfl (kk H locs ls h1 h2 h3)
theorem V_lushr (hC : Cx x cc own nL) {a : Int64} {b : Int32} (hdg : decode cc pc = .ok (.lushr, 1)) (kk : V x Z n0 k0 (pc + 1) L (.long ((a.toUInt64 >>> (b.toInt64.toUInt64 &&& Int64.toUInt64 63)).toInt64) :: rest) g) : V x Z n0 k0 pc L (.int b :: .long a :: rest) g := fun H locs ls h1 h2 h3 => lv_lushr hC.x hC.b hdg rfl (kk H locs ls h1 h2 h3)
theorem V_l2i (hC : Cx x cc own nL) {a : Int64} (hdg : decode cc pc = .ok (.l2i, 1)) (kk : V x Z n0 k0 (pc + 1) L (.int (a.toInt32) :: rest) g) : V x Z n0 k0 pc L (.long a :: rest) g := fun H locs ls h1 h2 h3 => lv_l2i hC.x hC.b hdg rfl (kk H locs ls h1 h2 h3)
theorem V_i2l (hC : Cx x cc own nL) {a : Int32} (hdg : decode cc pc = .ok (.i2l, 1)) (kk : V x Z n0 k0 (pc + 1) L (.long (a.toInt64) :: rest) g) : V x Z n0 k0 pc L (.int a :: rest) g := fun H locs ls h1 h2 h3 => lv_i2l hC.x hC.b hdg rfl (kk H locs ls h1 h2 h3)
theorem V_i2c (hC : Cx x cc own nL) {a : Int32} (hdg : decode cc pc = .ok (.i2c, 1)) (kk : V x Z n0 k0 (pc + 1) L (.int ((a.toUInt32 % 65536).toInt32) :: rest) g) : V x Z n0 k0 pc L (.int a :: rest) g := fun H locs ls h1 h2 h3 => lv_i2c hC.x hC.b hdg rfl (kk H locs ls h1 h2 h3)
theorem V_lcmp (hC : Cx x cc own nL) {a b : Int64} (hdg : decode cc pc = .ok (.lcmp, 1)) (kk : V x Z n0 k0 (pc + 1) L (.int (lg_cmp a b) :: rest) g) : V x Z n0 k0 pc L (.long b :: .long a :: rest) g := fun H locs ls h1 h2 h3 => W.lcmp hC.x hC.b hdg (kk H locs ls h1 h2 h3)
theorem V_icmp_eq (hC : Cx x cc own nL) {a b : Int32} {off : Int} (tgt : Nat) (hdg : decode cc pc = .ok (.if_icmp .eq off, 3)) (ht : (pc : Int) + off = (tgt : Int)) (k1 : a = b → V x Z n0 k0 tgt L rest g) (k2 : ¬ (a = b) → V x Z n0 k0 (pc + 3) L rest g) : V x Z n0 k0 pc L (.int b :: .int a :: rest) g := fun H locs ls h1 h2 h3 => lv_icmp_eq hC.x hC.b hdg ht (fun q => k1 q H locs ls h1 h2 h3) (fun q => k2 q H locs ls h1 h2 h3)
theorem V_if_eq (hC : Cx x cc own nL) {a : Int32} {off : Int} (tgt : Nat) (hdg : decode cc pc = .ok (.ifCond .eq off, 3)) (ht : (pc : Int) + off = (tgt : Int)) (k1 : a = 0 → V x Z n0 k0 tgt L rest g) (k2 : ¬ (a = 0) → V x Z n0 k0 (pc + 3) L rest g) : V x Z n0 k0 pc L (.int a :: rest) g := fun H locs ls h1 h2 h3 => lv_if_eq hC.x hC.b hdg ht (fun q => k1 q H locs ls h1 h2 h3) (fun q => k2 q H locs ls h1 h2 h3)
theorem V_icmp_ne (hC : Cx x cc own nL) {a b : Int32} {off : Int} (tgt : Nat) (hdg : decode cc pc = .ok (.if_icmp .ne off, 3)) (ht : (pc : Int) + off = (tgt : Int)) (k1 : ¬ a = b → V x Z n0 k0 tgt L rest g) (k2 : a = b → V x Z n0 k0 (pc + 3) L rest g) : V x Z n0 k0 pc L (.int b :: .int a :: rest) g := fun H locs ls h1 h2 h3 => lv_icmp_ne hC.x hC.b hdg ht (fun q => k1 q H locs ls h1 h2 h3) (fun q => k2 q H locs ls h1 h2 h3)
theorem V_if_ne (hC : Cx x cc own nL) {a : Int32} {off : Int} (tgt : Nat) (hdg : decode cc pc = .ok (.ifCond .ne off, 3)) (ht : (pc : Int) + off = (tgt : Int)) (k1 : ¬ a = 0 → V x Z n0 k0 tgt L rest g) (k2 : a = 0 → V x Z n0 k0 (pc + 3) L rest g) : V x Z n0 k0 pc L (.int a :: rest) g := fun H locs ls h1 h2 h3 => lv_if_ne hC.x hC.b hdg ht (fun q => k1 q H locs ls h1 h2 h3) (fun q => k2 q H locs ls h1 h2 h3)
theorem V_icmp_lt (hC : Cx x cc own nL) {a b : Int32} {off : Int} (tgt : Nat) (hdg : decode cc pc = .ok (.if_icmp .lt off, 3)) (ht : (pc : Int) + off = (tgt : Int)) (k1 : a < b → V x Z n0 k0 tgt L rest g) (k2 : ¬ (a < b) → V x Z n0 k0 (pc + 3) L rest g) : V x Z n0 k0 pc L (.int b :: .int a :: rest) g := fun H locs ls h1 h2 h3 => lv_icmp_lt hC.x hC.b hdg ht (fun q => k1 q H locs ls h1 h2 h3) (fun q => k2 q H locs ls h1 h2 h3)
theorem V_if_lt (hC : Cx x cc own nL) {a : Int32} {off : Int} (tgt : Nat) (hdg : decode cc pc = .ok (.ifCond .lt off, 3)) (ht : (pc : Int) + off = (tgt : Int)) (k1 : a < 0 → V x Z n0 k0 tgt L rest g) (k2 : ¬ (a < 0) → V x Z n0 k0 (pc + 3) L rest g) : V x Z n0 k0 pc L (.int a :: rest) g := fun H locs ls h1 h2 h3 => lv_if_lt hC.x hC.b hdg ht (fun q => k1 q H locs ls h1 h2 h3) (fun q => k2 q H locs ls h1 h2 h3)
theorem V_icmp_ge (hC : Cx x cc own nL) {a b : Int32} {off : Int} (tgt : Nat) (hdg : decode cc pc = .ok (.if_icmp .ge off, 3)) (ht : (pc : Int) + off = (tgt : Int)) (k1 : b ≤ a → V x Z n0 k0 tgt L rest g) (k2 : ¬ (b ≤ a) → V x Z n0 k0 (pc + 3) L rest g) : V x Z n0 k0 pc L (.int b :: .int a :: rest) g := fun H locs ls h1 h2 h3 => lv_icmp_ge hC.x hC.b hdg ht (fun q => k1 q H locs ls h1 h2 h3) (fun q => k2 q H locs ls h1 h2 h3)
theorem V_if_ge (hC : Cx x cc own nL) {a : Int32} {off : Int} (tgt : Nat) (hdg : decode cc pc = .ok (.ifCond .ge off, 3)) (ht : (pc : Int) + off = (tgt : Int)) (k1 : 0 ≤ a → V x Z n0 k0 tgt L rest g) (k2 : ¬ (0 ≤ a) → V x Z n0 k0 (pc + 3) L rest g) : V x Z n0 k0 pc L (.int a :: rest) g := fun H locs ls h1 h2 h3 => lv_if_ge hC.x hC.b hdg ht (fun q => k1 q H locs ls h1 h2 h3) (fun q => k2 q H locs ls h1 h2 h3)
theorem V_icmp_gt (hC : Cx x cc own nL) {a b : Int32} {off : Int} (tgt : Nat) (hdg : decode cc pc = .ok (.if_icmp .gt off, 3)) (ht : (pc : Int) + off = (tgt : Int)) (k1 : b < a → V x Z n0 k0 tgt L rest g) (k2 : ¬ (b < a) → V x Z n0 k0 (pc + 3) L rest g) : V x Z n0 k0 pc L (.int b :: .int a :: rest) g := fun H locs ls h1 h2 h3 => lv_icmp_gt hC.x hC.b hdg ht (fun q => k1 q H locs ls h1 h2 h3) (fun q => k2 q H locs ls h1 h2 h3)
theorem V_if_gt (hC : Cx x cc own nL) {a : Int32} {off : Int} (tgt : Nat) (hdg : decode cc pc = .ok (.ifCond .gt off, 3)) (ht : (pc : Int) + off = (tgt : Int)) (k1 : 0 < a → V x Z n0 k0 tgt L rest g) (k2 : ¬ (0 < a) → V x Z n0 k0 (pc + 3) L rest g) : V x Z n0 k0 pc L (.int a :: rest) g := fun H locs ls h1 h2 h3 => lv_if_gt hC.x hC.b hdg ht (fun q => k1 q H locs ls h1 h2 h3) (fun q => k2 q H locs ls h1 h2 h3)
theorem V_icmp_le (hC : Cx x cc own nL) {a b : Int32} {off : Int} (tgt : Nat) (hdg : decode cc pc = .ok (.if_icmp .le off, 3)) (ht : (pc : Int) + off = (tgt : Int)) (k1 : a ≤ b → V x Z n0 k0 tgt L rest g) (k2 : ¬ (a ≤ b) → V x Z n0 k0 (pc + 3) L rest g) : V x Z n0 k0 pc L (.int b :: .int a :: rest) g := fun H locs ls h1 h2 h3 => lv_icmp_le hC.x hC.b hdg ht (fun q => k1 q H locs ls h1 h2 h3) (fun q => k2 q H locs ls h1 h2 h3)
theorem V_if_le (hC : Cx x cc own nL) {a : Int32} {off : Int} (tgt : Nat) (hdg : decode cc pc = .ok (.ifCond .le off, 3)) (ht : (pc : Int) + off = (tgt : Int)) (k1 : a ≤ 0 → V x Z n0 k0 tgt L rest g) (k2 : ¬ (a ≤ 0) → V x Z n0 k0 (pc + 3) L rest g) : V x Z n0 k0 pc L (.int a :: rest) g := fun H locs ls h1 h2 h3 => lv_if_le hC.x hC.b hdg ht (fun q => k1 q H locs ls h1 h2 h3) (fun q => k2 q H locs ls h1 h2 h3)
theorem V_goto (hC : Cx x cc own nL) {off : Int} (tgt : Nat) (hdg : decode cc pc = .ok (.goto off, 3)) (ht : (pc : Int) + off = (tgt : Int)) (kk : V x Z n0 k0 tgt L rest g) : V x Z n0 k0 pc L rest g := fun H locs ls h1 h2 h3 => lv_goto hC.x hC.b hdg ht (kk H locs ls h1 h2 h3)
theorem V_ifnull (hC : Cx x cc own nL) {a : Option Nat} {off : Int} (tgt : Nat) (hdg : decode cc pc = .ok (.ifnull off, 3)) (ht : (pc : Int) + off = (tgt : Int)) (k1 : a = none → V x Z n0 k0 tgt L rest g) (k2 : ¬ a = none → V x Z n0 k0 (pc + 3) L rest g) : V x Z n0 k0 pc L (va_rf a :: rest) g := by
  intro H locs ls h1 h2 h3
  cases a with
  | none => exact lv_ifnullN hC.x hC.b hdg ht (k1 rfl H locs ls h1 h2 h3)
  | some a => exact lv_ifnull hC.x hC.b hdg (k2 (fun q => by cases q) H locs ls h1 h2 h3)
theorem V_ifnonnull (hC : Cx x cc own nL) {a : Option Nat} {off : Int} (tgt : Nat) (hdg : decode cc pc = .ok (.ifnonnull off, 3)) (ht : (pc : Int) + off = (tgt : Int)) (k1 : ¬ a = none → V x Z n0 k0 tgt L rest g) (k2 : a = none → V x Z n0 k0 (pc + 3) L rest g) : V x Z n0 k0 pc L (va_rf a :: rest) g := by
  intro H locs ls h1 h2 h3
  cases a with
  | none => exact lv_ifnonnullN hC.x hC.b hdg (k2 rfl H locs ls h1 h2 h3)
  | some a => exact lv_ifnonnull hC.x hC.b hdg ht (k1 (fun q => by cases q) H locs ls h1 h2 h3)
theorem rf_cat (a : Option Nat) : (va_rf a).category = 1 := by cases a <;> rfl
theorem V_dup (hC : Cx x cc own nL) {v : Value} (hdg : decode cc pc = .ok (.dup, 1)) (hv : v.category = 1) (kk : V x Z n0 k0 (pc + 1) L (v :: v :: rest) g) : V x Z n0 k0 pc L (v :: rest) g := fun H locs ls h1 h2 h3 => lv_dup hC.x hC.b hdg hv (kk H locs ls h1 h2 h3)
theorem V_pop (hC : Cx x cc own nL) {v : Value} (hdg : decode cc pc = .ok (.pop, 1)) (hv : v.category = 1) (kk : V x Z n0 k0 (pc + 1) L rest g) : V x Z n0 k0 pc L (v :: rest) g := fun H locs ls h1 h2 h3 => lv_pop hC.x hC.b hdg hv (kk H locs ls h1 h2 h3)
theorem V_dup2 (hC : Cx x cc own nL) {u v : Value} (hdg : decode cc pc = .ok (.dup2, 1)) (hu : u.category = 1) (hv : v.category = 1) (kk : V x Z n0 k0 (pc + 1) L (u :: v :: u :: v :: rest) g) : V x Z n0 k0 pc L (u :: v :: rest) g := fun H locs ls h1 h2 h3 => lv_dup2_11 hC.x hC.b hdg hu hv (kk H locs ls h1 h2 h3)
end VROWS

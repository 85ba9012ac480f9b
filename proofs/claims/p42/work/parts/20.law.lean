/-! THE LAW: what its walk stands over; the script; its function; the walk -/
def Cl (x : Cq) (b L : Nat) (xw : Nat → Int32) : Prop := Cx x code RL 11 ∧ va_X b L xw (xs x) (xs x).heap ∧ b < (xs x).heap.size ∧ xA x = (fun q => (xs x).heap.size ≤ q) ∧ xH x = (xs x).heap ∧ xR x = room_1 ∧ (xM x).sig.returnType = ret ∧ xa x = #[Value.ref b] ∧ xQ x = lw_Z (xb x) #[Value.ref b] (xs x)
/-- the script, said by the third of Z's functions at its own address -/
def scr (Z : Zt) (b j : Nat) : Int32 := Int32.ofBitVec (BitVec.ofNat 32 ((zf Z b j).getD 0))
def f_L_lot (n : Nat) (Z : Zt) (x0 : Nat) (x1 : Int32) (g : Mem) : Option (Int32 × Mem) := if Int32.ofNat (zl Z x0) ≤ x1 then (some (((-471800469 : Int32) * (x1 + (4243 : Int32)) + (4013 : Int32)), g)) else (grd (inr x1 (zl Z x0)) (some (scr Z x0 x1.toNatClampNeg, g)))
/-- what lot answers of a script -/
def lotV (L : Nat) (xw : Nat → Int32) (k v : Int32) : Prop := (Int32.ofNat L ≤ k ∧ v = (-471800469 : Int32) * (k + (4243 : Int32)) + (4013 : Int32)) ∨ (¬ Int32.ofNat L ≤ k ∧ inr k L ∧ v = xw k.toNatClampNeg)
def VL (b L : Nat) (xw : Nat → Int32) (k v : Int32) : Prop := ∀ (l : Launch) (xC : Nat → ClassId) (xI : Nat → Nat → Nat) (xD : Nat → ClassId), Met l yL_lot (wq yL_lot cL_lot 2 (some .int)) (rmq 1) (va_Pc [va_rf (some b), .int k] (fun U => (va_X b L xw U U.heap ∧ b < U.heap.size) ∧ Kx xC xI xD U)) (fun _ st oc t => oc = .returned (some (.int v)) ∧ t.heap.size = st.heap.size ∧ va_F (fun _ => False) st t) 0 0 (fun _ => False)
def Ze : Zt := (fun _ => 0, fun _ => 0, fun _ _ => none)
def ge : Mem := (fun _ _ => 0, fun _ _ => 0, fun _ _ => none)
def Ce (x : Cq) (b L : Nat) (xw : Nat → Int32) (v : Int32) : Prop := Cx x cL_lot RL 2 ∧ va_X b L xw (xs x) (xs x).heap ∧ b < (xs x).heap.size ∧ (xM x).sig.returnType = some .int ∧ xA x = (fun _ => False) ∧ xH x = (xs x).heap ∧ xQ x = MQ (xb x) (fun _ st oc t => oc = .returned (some (.int v)) ∧ t.heap.size = st.heap.size ∧ va_F (fun _ => False) st t) (xa x) (xs x) 0 0 (fun _ => False)
section LOT
variable {x : Cq} {Z : Zt} {pc b L : Nat} {Lc : List (Nat × Value)} {rest : List Value} {g : Mem} {xw : Nat → Int32} {v : Int32}
theorem V_sldE (hL : Ce x b L xw v) {i : Int32} (hi : inr i L) (hdg : decode cL_lot pc = .ok (.iaload, 1)) (kk : V x Z 0 0 (pc + 1) Lc (.int (xw i.toNatClampNeg) :: rest) g) : V x Z 0 0 pc Lc (.int i :: va_rf (some b) :: rest) g := by
  obtain ⟨hC, hX, hbl, hr, hA, hH, hQ⟩ := hL
  intro H locs ls h1 h2 h3
  have h3' := h3
  rw [hA, hH] at h3'
  exact va_sld hC.x hC.b hX hbl (fun q => q) h3' (inr_in hi) hdg (kk H locs ls h1 h2 h3)
theorem V_slenE (hL : Ce x b L xw v) (hdg : decode cL_lot pc = .ok (.arraylength, 1)) (kk : V x Z 0 0 (pc + 1) Lc (.int (Int32.ofNat L) :: rest) g) : V x Z 0 0 pc Lc (va_rf (some b) :: rest) g := by
  obtain ⟨hC, hX, hbl, hr, hA, hH, hQ⟩ := hL
  intro H locs ls h1 h2 h3
  have h3' := h3
  rw [hA, hH] at h3'
  exact va_slen hC.x hC.b hX hbl (fun q => q) h3' hdg (kk H locs ls h1 h2 h3)
theorem V_iretL (hL : Ce x b L xw v) (hdg : decode cL_lot pc = .ok (.ireturn, 1)) : V x Z 0 0 pc Lc [.int v] g := by
  obtain ⟨hC, hX, hbl, hr, hA, hH, hQ⟩ := hL
  intro H locs ls h1 h2 h3
  rw [hA, hH] at h3
  rw [hQ]
  exact W.iret hC.x hC.b hr (fun t ht hW => ⟨rfl, by rw [ht, h2.2, hH]; rfl, h3.F ht⟩) h3.2.2 hdg hC.l
end LOT
theorem hv_Ze {xC : Nat → ClassId} {xI : Nat → Nat → Nat} {xD : Nat → ClassId} {g : Mem} {H : Heap} : HV xC xI xD Ze g H := ⟨fun a c hc hz => absurd hz (Nat.succ_ne_zero c).symm, fun a t ht hz => absurd hz (Nat.succ_ne_zero (t + 10)).symm⟩
set_option maxHeartbeats 4000000 in
set_option maxRecDepth 100000 in
theorem vl_lot {b L : Nat} {xw : Nat → Int32} {k v : Int32} (h : lotV L xw k v) : VL b L xw k v := by
  intro l xC xI xD
  refine Met.ofW (cc := cL_lot) (maxL := 2) (ret := some .int) (by decide +kernel) rfl ?_
  intro p e s m args below meth c s₁ B hml hv
  obtain ⟨rfl, ⟨hX, hbl⟩, hK⟩ := hv
  have hts := atoms_spec (ws := wq yL_lot cL_lot 2 (some .int)) B.pre
  let As : List Value := [va_rf (some b), .int k]
  have body : ∀ x : Cq, Ce x b L xw v → V x Ze 0 0 0 [(0, va_rf (some b)), (1, .int k)] [] ge := by
    intro x hL
    have hC : Cx x cL_lot RL 2 := hL.1
    refine V_iload_n hC 1 dL_lot_0 rfl rfl ?_
    refine V_aload_n hC 0 dL_lot_1 rfl rfl ?_
    refine V_slenE hL dL_lot_2 ?_
    refine V_icmp_ge hC 12 dL_lot_3 (by decide) (fun c1 => ?_) (fun c1 => ?_)
    · rcases h with ⟨_, h2⟩ | ⟨h1, _⟩
      · refine V_ldc (v := -471800469) hC tw_2368 dL_lot_12 ?_
        refine V_iload_n hC 1 dL_lot_14 rfl rfl ?_
        refine V_sipush (v := 4243) hC dL_lot_15 (by decide) ?_
        refine V_iadd hC dL_lot_18 ?_
        refine V_imul hC dL_lot_19 ?_
        refine V_sipush (v := 4013) hC dL_lot_20 (by decide) ?_
        refine V_iadd hC dL_lot_23 ?_
        rw [← h2]
        exact V_iretL hL dL_lot_24
      · exact absurd c1 h1
    · rcases h with ⟨h1, _⟩ | ⟨_, h2, h3⟩
      · exact absurd h1 c1
      · refine V_aload_n hC 0 dL_lot_6 rfl rfl ?_
        refine V_iload_n hC 1 dL_lot_7 rfl rfl ?_
        refine V_sldE hL h2 dL_lot_8 ?_
        refine V_goto hC 24 dL_lot_9 (by decide) ?_
        rw [← h3]
        exact V_iretL hL dL_lot_24
  have hb := body (p, l, e, rmq 1, s, m, As.toArray, below, meth, c, xC, xI, xD, (fun _ => False), s.heap, MQ below (fun _ st oc t => oc = .returned (some (.int v)) ∧ t.heap.size = st.heap.size ∧ va_F (fun _ => False) st t) As.toArray s 0 0 (fun _ => False))
    ⟨⟨B.exec, B.bytes, hml, fun w h => hts w (List.mem_cons_of_mem _ h), findClass_of_methodNamed B.named, hK, B.notSynchronized⟩, hX, hbl, B.returns, rfl, rfl, rfl⟩
  have hl := lv_entry As (n := 2) (Nat.le_of_ble_eq_true rfl)
  rw [lg_entry_eq]
  exact hb s.heap [] _ (by rw [show (xc _) = c from rfl, hml]; exact hl) ⟨hv_Ze, rfl⟩ va_S.rf
theorem mq_L_lot : Mq yL_lot cL_lot 2 (some .int) 2 := ⟨tw_2367, tw_409, ⟨by decide +kernel, by decide +kernel, by decide +kernel⟩, by decide⟩
theorem mi_L_lot : Cond.static yL_lot ∈ TB := tw_2366
/-- what the law's walk stands over -/
def Ml (x : Cq) (Z : Zt) (b L : Nat) (xw : Nat → Int32) (rr : Int32) : Prop := Cl x b L xw ∧ Lv x Z ∧ zl Z b = L ∧ (∀ j, scr Z b j = xw j) ∧ rr = 1
theorem Pl_blind {b L : Nat} {xw : Nat → Int32} {As : List Value} {xC : Nat → ClassId} {xI : Nat → Nat → Nat} {xD : Nat → ClassId} : FrameBlind (va_Pc As (fun U => (va_X b L xw U U.heap ∧ b < U.heap.size) ∧ Kx xC xI xD U)) := fun a U g mk q => by
  obtain ⟨q0, ⟨q1, q3⟩, q2⟩ := q
  obtain ⟨sc, r1, r2, r3⟩ := q1
  exact ⟨q0, ⟨⟨sc, r1, State.isArrayOf_alike (Vm.Alike.refl U.vm) r2, r3⟩, q3⟩, q2.same rfl⟩
section LAW
variable {x : Cq} {Z : Zt} {n n0 k0 pc b L idx : Nat} {Lc : List (Nat × Value)} {rest : List Value} {g gg : Mem} {xw : Nat → Int32} {rr : Int32}
theorem Cl.d (h : Cl x b L xw) {d' : Nat} (q : d' + 1 ≤ 2047) : d' + 1 ≤ (xR x).frames ∧ 40 * d' + 40 ≤ (xR x).locals := by
  obtain ⟨-, -, -, -, -, hR, -⟩ := h
  rw [hR]
  exact ⟨by show _ ≤ 2048; omega, by show _ ≤ 84000; omega⟩
theorem Cl.r (h : Cl x b L xw) {u v : Nat} (q : u ≤ 600000 ∧ v ≤ 7302250) : u ≤ (xR x).cells ∧ v ≤ (xR x).slots := by
  obtain ⟨-, -, -, -, -, hR, -⟩ := h
  rw [hR]
  exact q
theorem Cl.lh (h : Cl x b L xw) : Lh x := by
  obtain ⟨-, -, -, hA, hH, -⟩ := h
  intro q hq
  rw [hA]
  rw [hH] at hq
  exact hq
theorem Ml.c (h : Ml x Z b L xw rr) : Cx x code RL 11 := h.1.1
theorem Ml.a (h : Ml x Z b L xw rr) : ∀ q, zk Z q ≠ 0 → xA x q := h.2.1
theorem Ml.d (h : Ml x Z b L xw rr) {d' : Nat} (q : d' + 1 ≤ 2000) : d' + 1 ≤ (xR x).frames ∧ 40 * d' + 40 ≤ (xR x).locals := h.1.d (by omega)
theorem Ml.z (h : Ml x Z b L xw rr) : 1463 ≤ (xR x).cells ∧ 33792 ≤ (xR x).slots := h.1.r (by decide)
theorem V_lend (hL : Cl x b L xw) (hn : n0 ≤ 600000 ∧ k0 ≤ 7302250) (hdg : decode code pc = .ok (.ireturn, 1)) : V x Z n0 k0 pc Lc [.int 1] g := by
  obtain ⟨hC, hX, hbl, hA, hH, hR, hr, ha, hQ⟩ := hL
  intro H locs ls h1 h2 h3
  rw [hA, hH] at h3
  rw [hQ, hR, ha]
  refine va_forget (fun q hq => h3.2.2 q hq) ?_
  refine W.widen hn.1 hn.2 ?_
  exact lw_ret (d0 := (xs x).drawn) (Drawn.sameBut.refl _ _) hC.x hC.b hr hC.l hdg
theorem V_lendE (hM : Ml x Z b L xw rr) {v : Int32} (h : some (v, g) = some (rr, gg)) (hdg : decode code pc = .ok (.ireturn, 1)) : V x Z 1463 33792 pc Lc [.int v] g := by
  have h1 : v = rr := congrArg Prod.fst (Option.some.inj h)
  have h2 : rr = 1 := hM.2.2.2.2
  rw [h1, h2]
  exact V_lend hM.1 (by decide) hdg
/-- lot, called by the law -/
theorem V_lot (hM : Ml x Z b L xw rr) {k r : Int32} {g1 : Mem} (h : f_L_lot n Z b k g = some (r, g1)) (hW : (rest.map fun v => v.category).sum ≤ 8) (hlink : Cond.methodLink RL idx yL_lot ∈ TB) (hdg : decode code pc = .ok (.invokestatic idx, 3))
    (kk : V x Z 1463 33792 (pc + 3) Lc (.int r :: rest) g1) : V x Z 1463 33792 pc Lc (.int k :: va_rf (some b) :: rest) g := by
  have hC : Cx x code RL 11 := hM.c
  obtain ⟨hCl, hA, hzl, hsc, -⟩ := id hM
  obtain ⟨-, hX, hbl, hxA, hxH, -⟩ := id hCl
  have hv : lotV L xw k r ∧ g1 = g := by
    unfold f_L_lot at h
    rw [hzl] at h
    by_cases q : Int32.ofNat L ≤ k
    · rw [if_pos q] at h
      obtain ⟨e1, e2⟩ := Prod.mk.inj (Option.some.inj h)
      exact ⟨Or.inl ⟨q, e1.symm⟩, e2.symm⟩
    · rw [if_neg q] at h
      obtain ⟨q2, h⟩ := grd_some h
      obtain ⟨e1, e2⟩ := Prod.mk.inj (Option.some.inj h)
      exact ⟨Or.inr ⟨q, q2, by rw [← e1]; exact hsc _⟩, e2.symm⟩
  obtain ⟨hv, rfl⟩ := hv
  intro H locs ls h1 h2 h3 T hT X
  have hrun : va_Run (xp x) (xl x) (xe x) (xR x) (xs x) (xm x) (xa x) (xb x) (xM x) (xc x) H locs 1463 33792 0 0 (F0 (xm x) pc ls (.int k :: va_rf (some b) :: rest)) rest ((fun (_ : Array Value) (st : State) (oc : Outcome) (t : State) => oc = .returned (some (.int r)) ∧ t.heap.size = st.heap.size ∧ va_F (fun _ => False) st t) ([va_rf (some b), .int k] : List Value).toArray) (fun _ => False) :=
    va_runS ⟨hC.x, hC.b, hC.n, hC.o, hC.w⟩ (vl_lot (b := b) hv (xl x) (xC x) (xI x) (xD x)) ⟨callq (As := [va_rf (some b), .int k]) hC mq_L_lot hlink (hM.d (by decide)), hC.w _ mi_L_lot⟩ ⟨Pl_blind, fun U hU hWm => ⟨rfl, ⟨by
      rw [hU]
      exact (hX.kept ((h3.2.1 b (by rw [hxH]; exact hbl) (by rw [hxA]; exact Nat.not_le.mpr hbl)).trans (by rw [hxH]))).moved hWm.alike, by
      rw [hU]; exact Nat.lt_of_lt_of_le hbl (by have := h3.1; rw [hxH] at this; exact this)⟩, hC.K.moved hWm⟩⟩ rfl rfl (by rw [← hC.n]; exact h1.1) rfl (lv_room hW) hdg hM.z
  have hr := hrun T hT X
  obtain ⟨v, st₀, t, T', L', h0, X', hLL, e1, e2, ⟨hv', hzz, hz, hk⟩, st⟩ := hr
  cases hv'
  rw [h0] at hz hk hzz
  have hHH : T'.heap = H := by
    rw [e1]
    refine Array.ext_getElem? fun q => ?_
    by_cases hq : q < H.size
    · exact hk q hq (fun z => z)
    · rw [Array.getElem?_eq_none (by omega), Array.getElem?_eq_none (by omega)]
  obtain ⟨t2, a1, b1⟩ := kk T'.heap (locs ++ L') ls h1 (by rw [hHH]; exact h2) (by
    rw [hHH]
    refine ⟨h3.1, h3.2.1, fun q hq => ?_⟩
    rcases List.mem_append.mp hq with h | h
    · exact h3.2.2 q h
    · exact absurd (hLL q h) (fun z => z)) T' rfl X'
  exact ⟨t2, st t2 a1, b1⟩
end LAW
def f_L_law_l283 (n : Nat) (Z : Zt) (κ41 : Nat → Nat → Int32 → Int32 → Int32 → Mem → Option (Int32 × Mem)) (a : Nat) (x1 : Nat) (x2 : Nat) (x4 : Int32) (x5 : Int32) (s0 : Int32) (g : Mem) : Option (Int32 × Mem) := if x4 = 0 then (κ41 x1 x2 s0 (x4 - (0 : Int32)) (x5 + 1) g) else (κ41 x1 x2 s0 (x4 - (1 : Int32)) (x5 + 1) g)
set_option maxHeartbeats 4000000 in
set_option maxRecDepth 100000 in
theorem vl_L_law_l283 {x : Cq} {n L : Nat} {xw : Nat → Int32} {Z : Zt} {κ41 : Nat → Nat → Int32 → Int32 → Int32 → Mem → Option (Int32 × Mem)} {a : Nat} {x1 : Nat} {x2 : Nat} {x4 : Int32} {x5 : Int32} {s0 : Int32} {g : Mem} {rr : Int32} {gg : Mem} (hM : Ml x Z a L xw rr) (hz0 : zk Z a = 0) (hκ41 : ∀ (y1 : Nat) (y2 : Nat) (y3 : Int32) (y4 : Int32) (y5 : Int32) (y : Mem), κ41 y1 y2 y3 y4 y5 y = some (rr, gg) → V x Z 1463 33792 41 [(0, va_rf (some a)), (1, va_rf (some y1)), (2, va_rf (some y2)), (3, .int y3), (4, .int y4), (5, .int y5)] [] y) (h : f_L_law_l283 n Z κ41 a x1 x2 x4 x5 s0 g = some (rr, gg)) : V x Z 1463 33792 283 [(0, va_rf (some a)), (1, va_rf (some x1)), (2, va_rf (some x2)), (4, .int x4), (5, .int x5)] [.int s0] g := by
  unfold f_L_law_l283 at h
  refine V_istore_n (i := 3) (L' := [(3, .int s0), (0, va_rf (some a)), (1, va_rf (some x1)), (2, va_rf (some x2)), (4, .int x4), (5, .int x5)]) hM.c dL_law_283 rfl (by decide) rfl ?_
  refine V_iload hM.c 4 dL_law_284 rfl ?_
  refine V_iload hM.c 4 dL_law_286 rfl ?_
  refine V_if_ne hM.c 295 dL_law_288 (by decide) (fun c68 => ?_) (fun c68 => ?_)
  · replace h := ite_n h c68
    refine V_iconst (v := 1) hM.c dL_law_295 (by decide) ?_
    refine V_isub hM.c dL_law_296 ?_
    refine V_istore (L' := [(4, .int (x4 - (1 : Int32))), (3, .int s0), (0, va_rf (some a)), (1, va_rf (some x1)), (2, va_rf (some x2)), (5, .int x5)]) hM.c dL_law_297 (by decide) rfl ?_
    refine V_iinc (v := (x5 + 1)) (L' := [(5, .int (x5 + 1)), (4, .int (x4 - (1 : Int32))), (3, .int s0), (0, va_rf (some a)), (1, va_rf (some x1)), (2, va_rf (some x2))]) hM.c 5 dL_law_299 rfl rfl (by decide) rfl ?_
    refine V_goto hM.c 41 dL_law_302 (by decide) ?_
    refine V_sub [3, 4, 5, 2, 1, 0] rfl ?_
    exact hκ41 _ _ _ _ _ _ h
  · replace h := ite_p h c68
    refine V_iconst (v := 0) hM.c dL_law_291 (by decide) ?_
    refine V_goto hM.c 296 dL_law_292 (by decide) ?_
    refine V_isub hM.c dL_law_296 ?_
    refine V_istore (L' := [(4, .int (x4 - (0 : Int32))), (3, .int s0), (0, va_rf (some a)), (1, va_rf (some x1)), (2, va_rf (some x2)), (5, .int x5)]) hM.c dL_law_297 (by decide) rfl ?_
    refine V_iinc (v := (x5 + 1)) (L' := [(5, .int (x5 + 1)), (4, .int (x4 - (0 : Int32))), (3, .int s0), (0, va_rf (some a)), (1, va_rf (some x1)), (2, va_rf (some x2))]) hM.c 5 dL_law_299 rfl rfl (by decide) rfl ?_
    refine V_goto hM.c 41 dL_law_302 (by decide) ?_
    refine V_sub [3, 4, 5, 2, 1, 0] rfl ?_
    exact hκ41 _ _ _ _ _ _ h
def f_L_law_l275 (n : Nat) (Z : Zt) (κ41 : Nat → Nat → Int32 → Int32 → Int32 → Mem → Option (Int32 × Mem)) (a : Nat) (x1 : Nat) (x2 : Nat) (x4 : Int32) (x5 : Int32) (s0 : Int32) (s1 : Int32) (g : Mem) : Option (Int32 × Mem) := if s1 = s0 then (f_L_law_l283 n Z κ41 a x1 x2 x4 x5 (1 : Int32) g) else (f_L_law_l283 n Z κ41 a x1 x2 x4 x5 (0 : Int32) g)
set_option maxHeartbeats 4000000 in
set_option maxRecDepth 100000 in
theorem vl_L_law_l275 {x : Cq} {n L : Nat} {xw : Nat → Int32} {Z : Zt} {κ41 : Nat → Nat → Int32 → Int32 → Int32 → Mem → Option (Int32 × Mem)} {a : Nat} {x1 : Nat} {x2 : Nat} {x4 : Int32} {x5 : Int32} {s0 : Int32} {s1 : Int32} {g : Mem} {rr : Int32} {gg : Mem} (hM : Ml x Z a L xw rr) (hz0 : zk Z a = 0) (hκ41 : ∀ (y1 : Nat) (y2 : Nat) (y3 : Int32) (y4 : Int32) (y5 : Int32) (y : Mem), κ41 y1 y2 y3 y4 y5 y = some (rr, gg) → V x Z 1463 33792 41 [(0, va_rf (some a)), (1, va_rf (some y1)), (2, va_rf (some y2)), (3, .int y3), (4, .int y4), (5, .int y5)] [] y) (h : f_L_law_l275 n Z κ41 a x1 x2 x4 x5 s0 s1 g = some (rr, gg)) : V x Z 1463 33792 275 [(0, va_rf (some a)), (1, va_rf (some x1)), (2, va_rf (some x2)), (4, .int x4), (5, .int x5)] [.int s0, .int s1] g := by
  unfold f_L_law_l275 at h
  refine V_icmp_ne hM.c 282 dL_law_275 (by decide) (fun c67 => ?_) (fun c67 => ?_)
  · replace h := ite_n h c67
    refine V_iconst (v := 0) hM.c dL_law_282 (by decide) ?_
    refine V_sub [0, 1, 2, 3, 4] rfl ?_
    exact vl_L_law_l283 hM hz0 hκ41 h
  · replace h := ite_p h c67
    refine V_iconst (v := 1) hM.c dL_law_278 (by decide) ?_
    refine V_goto hM.c 283 dL_law_279 (by decide) ?_
    refine V_sub [0, 1, 2, 3, 4] rfl ?_
    exact vl_L_law_l283 hM hz0 hκ41 h
def f_L_law_l243 (n : Nat) (Z : Zt) (κ41 : Nat → Nat → Int32 → Int32 → Int32 → Mem → Option (Int32 × Mem)) (a : Nat) (x1 : Nat) (x2 : Nat) (x3 : Int32) (x4 : Int32) (x5 : Int32) (g : Mem) : Option (Int32 × Mem) := if x3 = 0 then (κ41 x1 x2 x3 x4 (x5 + 1) g) else (if (x5 - x5 / (9 : Int32) * (9 : Int32)) = (8 : Int32) then (bnd (f_X10_undo n Z x1 g) (fun r63 g64 => if x4 = 0 then (f_L_law_l275 n Z κ41 a x1 x2 x4 x5 (-6 : Int32) r63 g64) else (f_L_law_l275 n Z κ41 a x1 x2 x4 x5 (x4 - (1 : Int32)) r63 g64))) else (κ41 x1 x2 x3 x4 (x5 + 1) g))
set_option maxHeartbeats 4000000 in
set_option maxRecDepth 100000 in
theorem vl_L_law_l243 {x : Cq} {n L : Nat} {xw : Nat → Int32} {Z : Zt} {κ41 : Nat → Nat → Int32 → Int32 → Int32 → Mem → Option (Int32 × Mem)} {a : Nat} {x1 : Nat} {x2 : Nat} {x3 : Int32} {x4 : Int32} {x5 : Int32} {g : Mem} {rr : Int32} {gg : Mem} (hM : Ml x Z a L xw rr) (hz0 : zk Z a = 0) (hκ41 : ∀ (y1 : Nat) (y2 : Nat) (y3 : Int32) (y4 : Int32) (y5 : Int32) (y : Mem), κ41 y1 y2 y3 y4 y5 y = some (rr, gg) → V x Z 1463 33792 41 [(0, va_rf (some a)), (1, va_rf (some y1)), (2, va_rf (some y2)), (3, .int y3), (4, .int y4), (5, .int y5)] [] y) (h : f_L_law_l243 n Z κ41 a x1 x2 x3 x4 x5 g = some (rr, gg)) : V x Z 1463 33792 243 [(0, va_rf (some a)), (1, va_rf (some x1)), (2, va_rf (some x2)), (3, .int x3), (4, .int x4), (5, .int x5)] [] g := by
  unfold f_L_law_l243 at h
  refine V_iload_n hM.c 3 dL_law_243 rfl rfl ?_
  refine V_if_eq hM.c 299 dL_law_244 (by decide) (fun c61 => ?_) (fun c61 => ?_)
  · replace h := ite_p h c61
    refine V_iinc (v := (x5 + 1)) (L' := [(5, .int (x5 + 1)), (0, va_rf (some a)), (1, va_rf (some x1)), (2, va_rf (some x2)), (3, .int x3), (4, .int x4)]) hM.c 5 dL_law_299 rfl rfl (by decide) rfl ?_
    refine V_goto hM.c 41 dL_law_302 (by decide) ?_
    refine V_sub [1, 2, 3, 4, 5, 0] rfl ?_
    exact hκ41 _ _ _ _ _ _ h
  · replace h := ite_n h c61
    refine V_iload hM.c 5 dL_law_247 rfl ?_
    refine V_bipush (v := 9) hM.c dL_law_249 (by decide) ?_
    refine V_irem hM.c dL_law_251 (by decide) ?_
    refine V_bipush (v := 8) hM.c dL_law_252 (by decide) ?_
    refine V_icmp_ne hM.c 299 dL_law_254 (by decide) (fun c62 => ?_) (fun c62 => ?_)
    · replace h := ite_n h c62
      refine V_iinc (v := (x5 + 1)) (L' := [(5, .int (x5 + 1)), (0, va_rf (some a)), (1, va_rf (some x1)), (2, va_rf (some x2)), (3, .int x3), (4, .int x4)]) hM.c 5 dL_law_299 rfl rfl (by decide) rfl ?_
      refine V_goto hM.c 41 dL_law_302 (by decide) ?_
      refine V_sub [1, 2, 3, 4, 5, 0] rfl ?_
      exact hκ41 _ _ _ _ _ _ h
    · replace h := ite_p h c62
      refine V_aload_n hM.c 1 dL_law_257 rfl rfl ?_
      replace h := bnd_some h
      obtain ⟨r63, g64, e65, h⟩ := h
      refine V_callV (As := []) (c := 8) (T := TX10) (N := 10) hM.c hM.a mq_X10_undo mi_X10_undo tw_2159 (hM.d (by decide)) hM.z rfl (by omega) (zc_X10_undo e65) (vm_X10_undo e65) rfl (Nat.le_of_ble_eq_true rfl) dL_law_258 ?_
      refine V_iload hM.c 4 dL_law_261 rfl ?_
      refine V_if_ne hM.c 271 dL_law_263 (by decide) (fun c66 => ?_) (fun c66 => ?_)
      · replace h := ite_n h c66
        refine V_iload hM.c 4 dL_law_271 rfl ?_
        refine V_iconst (v := 1) hM.c dL_law_273 (by decide) ?_
        refine V_isub hM.c dL_law_274 ?_
        refine V_sub [0, 1, 2, 4, 5] rfl ?_
        exact vl_L_law_l275 hM hz0 hκ41 h
      · replace h := ite_p h c66
        refine V_bipush (v := -6) hM.c dL_law_266 (by decide) ?_
        refine V_goto hM.c 275 dL_law_268 (by decide) ?_
        refine V_sub [0, 1, 2, 4, 5] rfl ?_
        exact vl_L_law_l275 hM hz0 hκ41 h
def f_L_law_l242 (n : Nat) (Z : Zt) (κ41 : Nat → Nat → Int32 → Int32 → Int32 → Mem → Option (Int32 × Mem)) (a : Nat) (x1 : Nat) (x2 : Nat) (x4 : Int32) (x5 : Int32) (s0 : Int32) (g : Mem) : Option (Int32 × Mem) := f_L_law_l243 n Z κ41 a x1 x2 s0 x4 x5 g
set_option maxHeartbeats 4000000 in
set_option maxRecDepth 100000 in
theorem vl_L_law_l242 {x : Cq} {n L : Nat} {xw : Nat → Int32} {Z : Zt} {κ41 : Nat → Nat → Int32 → Int32 → Int32 → Mem → Option (Int32 × Mem)} {a : Nat} {x1 : Nat} {x2 : Nat} {x4 : Int32} {x5 : Int32} {s0 : Int32} {g : Mem} {rr : Int32} {gg : Mem} (hM : Ml x Z a L xw rr) (hz0 : zk Z a = 0) (hκ41 : ∀ (y1 : Nat) (y2 : Nat) (y3 : Int32) (y4 : Int32) (y5 : Int32) (y : Mem), κ41 y1 y2 y3 y4 y5 y = some (rr, gg) → V x Z 1463 33792 41 [(0, va_rf (some a)), (1, va_rf (some y1)), (2, va_rf (some y2)), (3, .int y3), (4, .int y4), (5, .int y5)] [] y) (h : f_L_law_l242 n Z κ41 a x1 x2 x4 x5 s0 g = some (rr, gg)) : V x Z 1463 33792 242 [(0, va_rf (some a)), (1, va_rf (some x1)), (2, va_rf (some x2)), (4, .int x4), (5, .int x5)] [.int s0] g := by
  unfold f_L_law_l242 at h
  refine V_istore_n (i := 3) (L' := [(3, .int s0), (0, va_rf (some a)), (1, va_rf (some x1)), (2, va_rf (some x2)), (4, .int x4), (5, .int x5)]) hM.c dL_law_242 rfl (by decide) rfl ?_
  refine V_sub [1, 2, 3, 0, 4, 5] rfl ?_
  exact vl_L_law_l243 hM hz0 hκ41 h
def f_L_law_l241 (n : Nat) (Z : Zt) (κ41 : Nat → Nat → Int32 → Int32 → Int32 → Mem → Option (Int32 × Mem)) (a : Nat) (x1 : Nat) (x2 : Nat) (x4 : Int32) (x5 : Int32) (g : Mem) : Option (Int32 × Mem) := f_L_law_l242 n Z κ41 a x1 x2 x4 x5 (0 : Int32) g
set_option maxHeartbeats 4000000 in
set_option maxRecDepth 100000 in
theorem vl_L_law_l241 {x : Cq} {n L : Nat} {xw : Nat → Int32} {Z : Zt} {κ41 : Nat → Nat → Int32 → Int32 → Int32 → Mem → Option (Int32 × Mem)} {a : Nat} {x1 : Nat} {x2 : Nat} {x4 : Int32} {x5 : Int32} {g : Mem} {rr : Int32} {gg : Mem} (hM : Ml x Z a L xw rr) (hz0 : zk Z a = 0) (hκ41 : ∀ (y1 : Nat) (y2 : Nat) (y3 : Int32) (y4 : Int32) (y5 : Int32) (y : Mem), κ41 y1 y2 y3 y4 y5 y = some (rr, gg) → V x Z 1463 33792 41 [(0, va_rf (some a)), (1, va_rf (some y1)), (2, va_rf (some y2)), (3, .int y3), (4, .int y4), (5, .int y5)] [] y) (h : f_L_law_l241 n Z κ41 a x1 x2 x4 x5 g = some (rr, gg)) : V x Z 1463 33792 241 [(0, va_rf (some a)), (1, va_rf (some x1)), (2, va_rf (some x2)), (4, .int x4), (5, .int x5)] [] g := by
  unfold f_L_law_l241 at h
  refine V_iconst (v := 0) hM.c dL_law_241 (by decide) ?_
  refine V_sub [0, 1, 2, 3, 4] rfl ?_
  exact vl_L_law_l242 hM hz0 hκ41 h
def f_L_law_l191 (n : Nat) (Z : Zt) (κ41 : Nat → Nat → Int32 → Int32 → Int32 → Mem → Option (Int32 × Mem)) (a : Nat) (x1 : Nat) (x2 : Nat) (x3 : Int32) (x5 : Int32) (x7 : Int32) (x8 : Int64) (x10 : Int32) (s0 : Int32) (s1 : Int32) (g : Mem) : Option (Int32 × Mem) := if x3 = 0 then (f_L_law_l243 n Z κ41 a x1 x2 x3 (s1 + s0) x5 g) else (if x10 = 0 then (f_L_law_l243 n Z κ41 a x1 x2 x3 (s1 + s0) x5 g) else (bnd (f_L_low n Z (x7 >>> ((8 : Int32) &&& 31)) (3 : Int32) g) (fun r49 g50 => if r49 = 0 then (bnd (f_X10_undo n Z x1 g50) (fun r53 g54 => if r53 = ((s1 + s0) + (-1 : Int32)) then (bnd (f_L_look n Z x1 g54) (fun r57 g58 => if (lg_cmp r57 x8) = 0 then (f_L_law_l242 n Z κ41 a x1 x2 ((s1 + s0) + (-1 : Int32)) x5 (1 : Int32) g58) else (f_L_law_l241 n Z κ41 a x1 x2 ((s1 + s0) + (-1 : Int32)) x5 g58))) else (f_L_law_l241 n Z κ41 a x1 x2 ((s1 + s0) + (-1 : Int32)) x5 g54))) else (f_L_law_l243 n Z κ41 a x1 x2 x3 (s1 + s0) x5 g50))))
set_option maxHeartbeats 4000000 in
set_option maxRecDepth 100000 in
theorem vl_L_law_l191 {x : Cq} {n L : Nat} {xw : Nat → Int32} {Z : Zt} {κ41 : Nat → Nat → Int32 → Int32 → Int32 → Mem → Option (Int32 × Mem)} {a : Nat} {x1 : Nat} {x2 : Nat} {x3 : Int32} {x5 : Int32} {x7 : Int32} {x8 : Int64} {x10 : Int32} {s0 : Int32} {s1 : Int32} {g : Mem} {rr : Int32} {gg : Mem} (hM : Ml x Z a L xw rr) (hz0 : zk Z a = 0) (hκ41 : ∀ (y1 : Nat) (y2 : Nat) (y3 : Int32) (y4 : Int32) (y5 : Int32) (y : Mem), κ41 y1 y2 y3 y4 y5 y = some (rr, gg) → V x Z 1463 33792 41 [(0, va_rf (some a)), (1, va_rf (some y1)), (2, va_rf (some y2)), (3, .int y3), (4, .int y4), (5, .int y5)] [] y) (h : f_L_law_l191 n Z κ41 a x1 x2 x3 x5 x7 x8 x10 s0 s1 g = some (rr, gg)) : V x Z 1463 33792 191 [(0, va_rf (some a)), (1, va_rf (some x1)), (2, va_rf (some x2)), (3, .int x3), (5, .int x5), (7, .int x7), (8, .long x8), (10, .int x10)] [.int s0, .int s1] g := by
  unfold f_L_law_l191 at h
  refine V_iadd hM.c dL_law_191 ?_
  refine V_istore (L' := [(4, .int (s1 + s0)), (0, va_rf (some a)), (1, va_rf (some x1)), (2, va_rf (some x2)), (3, .int x3), (5, .int x5), (7, .int x7), (8, .long x8), (10, .int x10)]) hM.c dL_law_192 (by decide) rfl ?_
  refine V_iload_n hM.c 4 dL_law_194 rfl rfl ?_
  refine V_if_eq hM.c 243 dL_law_195 (by decide) (fun c47 => ?_) (fun c47 => ?_)
  · replace h := ite_p h c47
    refine V_sub [1, 2, 3, 4, 0, 5] rfl ?_
    exact vl_L_law_l243 hM hz0 hκ41 h
  · replace h := ite_n h c47
    refine V_iload hM.c 8 dL_law_198 rfl ?_
    refine V_if_eq hM.c 243 dL_law_200 (by decide) (fun c48 => ?_) (fun c48 => ?_)
    · replace h := ite_p h c48
      refine V_sub [1, 2, 3, 4, 0, 5] rfl ?_
      exact vl_L_law_l243 hM hz0 hκ41 h
    · replace h := ite_n h c48
      refine V_iload hM.c 6 dL_law_203 rfl ?_
      refine V_bipush (v := 8) hM.c dL_law_205 (by decide) ?_
      refine V_ishr hM.c dL_law_207 ?_
      refine V_iconst (v := 3) hM.c dL_law_208 (by decide) ?_
      replace h := bnd_some h
      obtain ⟨r49, g50, e51, h⟩ := h
      refine V_callS (As := [.int (x7 >>> ((8 : Int32) &&& 31)), .int (3 : Int32)]) hM.c hM.a mq_L_low mi_L_low tw_407 (hM.d (by decide)) hM.z (vm_L_low e51) rfl (Nat.le_of_ble_eq_true rfl) dL_law_209 ?_
      refine V_if_ne hM.c 243 dL_law_212 (by decide) (fun c52 => ?_) (fun c52 => ?_)
      · replace h := ite_n h c52
        refine V_sub [1, 2, 3, 4, 0, 5] rfl ?_
        exact vl_L_law_l243 hM hz0 hκ41 h
      · replace h := ite_p h c52
        refine V_iinc (v := ((s1 + s0) + (-1 : Int32))) (L' := [(4, .int ((s1 + s0) + (-1 : Int32))), (0, va_rf (some a)), (1, va_rf (some x1)), (2, va_rf (some x2)), (3, .int x3), (5, .int x5), (7, .int x7), (8, .long x8), (10, .int x10)]) hM.c 0 dL_law_215 rfl rfl (by decide) rfl ?_
        refine V_aload_n hM.c 2 dL_law_218 rfl rfl ?_
        replace h := bnd_some h
        obtain ⟨r53, g54, e55, h⟩ := h
        refine V_callV (As := []) (c := 8) (T := TX10) (N := 10) hM.c hM.a mq_X10_undo mi_X10_undo tw_2159 (hM.d (by decide)) hM.z rfl (by omega) (zc_X10_undo e55) (vm_X10_undo e55) rfl (Nat.le_of_ble_eq_true rfl) dL_law_219 ?_
        refine V_iload hM.c 0 dL_law_222 rfl ?_
        refine V_icmp_ne hM.c 241 dL_law_224 (by decide) (fun c56 => ?_) (fun c56 => ?_)
        · replace h := ite_n h c56
          refine V_sub [1, 2, 3, 0, 5] rfl ?_
          exact vl_L_law_l241 hM hz0 hκ41 h
        · replace h := ite_p h c56
          refine V_aload_n hM.c 2 dL_law_227 rfl rfl ?_
          replace h := bnd_some h
          obtain ⟨r57, g58, e59, h⟩ := h
          refine V_callS (As := [va_rf (some x1)]) hM.c hM.a mq_L_look mi_L_look tw_2369 (hM.d (by decide)) hM.z (vm_L_look e59) rfl (Nat.le_of_ble_eq_true rfl) dL_law_228 ?_
          refine V_lload hM.c 7 dL_law_231 rfl ?_
          refine V_lcmp hM.c dL_law_233 ?_
          refine V_if_ne hM.c 241 dL_law_234 (by decide) (fun c60 => ?_) (fun c60 => ?_)
          · replace h := ite_n h c60
            refine V_sub [1, 2, 3, 0, 5] rfl ?_
            exact vl_L_law_l241 hM hz0 hκ41 h
          · replace h := ite_p h c60
            refine V_iconst (v := 1) hM.c dL_law_237 (by decide) ?_
            refine V_goto hM.c 242 dL_law_238 (by decide) ?_
            refine V_sub [1, 2, 3, 0, 5] rfl ?_
            exact vl_L_law_l242 hM hz0 hκ41 h
def f_L_law_l190 (n : Nat) (Z : Zt) (κ41 : Nat → Nat → Int32 → Int32 → Int32 → Mem → Option (Int32 × Mem)) (a : Nat) (x1 : Nat) (x2 : Nat) (x3 : Int32) (x5 : Int32) (x7 : Int32) (x8 : Int64) (x10 : Int32) (s0 : Int32) (g : Mem) : Option (Int32 × Mem) := f_L_law_l191 n Z κ41 a x1 x2 x3 x5 x7 x8 x10 (0 : Int32) s0 g
set_option maxHeartbeats 4000000 in
set_option maxRecDepth 100000 in
theorem vl_L_law_l190 {x : Cq} {n L : Nat} {xw : Nat → Int32} {Z : Zt} {κ41 : Nat → Nat → Int32 → Int32 → Int32 → Mem → Option (Int32 × Mem)} {a : Nat} {x1 : Nat} {x2 : Nat} {x3 : Int32} {x5 : Int32} {x7 : Int32} {x8 : Int64} {x10 : Int32} {s0 : Int32} {g : Mem} {rr : Int32} {gg : Mem} (hM : Ml x Z a L xw rr) (hz0 : zk Z a = 0) (hκ41 : ∀ (y1 : Nat) (y2 : Nat) (y3 : Int32) (y4 : Int32) (y5 : Int32) (y : Mem), κ41 y1 y2 y3 y4 y5 y = some (rr, gg) → V x Z 1463 33792 41 [(0, va_rf (some a)), (1, va_rf (some y1)), (2, va_rf (some y2)), (3, .int y3), (4, .int y4), (5, .int y5)] [] y) (h : f_L_law_l190 n Z κ41 a x1 x2 x3 x5 x7 x8 x10 s0 g = some (rr, gg)) : V x Z 1463 33792 190 [(0, va_rf (some a)), (1, va_rf (some x1)), (2, va_rf (some x2)), (3, .int x3), (5, .int x5), (7, .int x7), (8, .long x8), (10, .int x10)] [.int s0] g := by
  unfold f_L_law_l190 at h
  refine V_iconst (v := 0) hM.c dL_law_190 (by decide) ?_
  refine V_sub [0, 1, 2, 3, 4, 5, 6, 7] rfl ?_
  exact vl_L_law_l191 hM hz0 hκ41 h
def f_L_law_l172 (n : Nat) (Z : Zt) (κ41 : Nat → Nat → Int32 → Int32 → Int32 → Mem → Option (Int32 × Mem)) (a : Nat) (x1 : Nat) (x2 : Nat) (x4 : Int32) (x5 : Int32) (x7 : Int32) (x8 : Int64) (x10 : Int32) (s0 : Int32) (g : Mem) : Option (Int32 × Mem) := if x10 = 0 then (f_L_law_l190 n Z κ41 a x1 x2 s0 x5 x7 x8 x10 x4 g) else (if (4 : Int32) ≤ x4 then (f_L_law_l190 n Z κ41 a x1 x2 s0 x5 x7 x8 x10 x4 g) else (f_L_law_l191 n Z κ41 a x1 x2 s0 x5 x7 x8 x10 (1 : Int32) x4 g))
set_option maxHeartbeats 4000000 in
set_option maxRecDepth 100000 in
theorem vl_L_law_l172 {x : Cq} {n L : Nat} {xw : Nat → Int32} {Z : Zt} {κ41 : Nat → Nat → Int32 → Int32 → Int32 → Mem → Option (Int32 × Mem)} {a : Nat} {x1 : Nat} {x2 : Nat} {x4 : Int32} {x5 : Int32} {x7 : Int32} {x8 : Int64} {x10 : Int32} {s0 : Int32} {g : Mem} {rr : Int32} {gg : Mem} (hM : Ml x Z a L xw rr) (hz0 : zk Z a = 0) (hκ41 : ∀ (y1 : Nat) (y2 : Nat) (y3 : Int32) (y4 : Int32) (y5 : Int32) (y : Mem), κ41 y1 y2 y3 y4 y5 y = some (rr, gg) → V x Z 1463 33792 41 [(0, va_rf (some a)), (1, va_rf (some y1)), (2, va_rf (some y2)), (3, .int y3), (4, .int y4), (5, .int y5)] [] y) (h : f_L_law_l172 n Z κ41 a x1 x2 x4 x5 x7 x8 x10 s0 g = some (rr, gg)) : V x Z 1463 33792 172 [(0, va_rf (some a)), (1, va_rf (some x1)), (2, va_rf (some x2)), (4, .int x4), (5, .int x5), (7, .int x7), (8, .long x8), (10, .int x10)] [.int s0] g := by
  unfold f_L_law_l172 at h
  refine V_istore_n (i := 3) (L' := [(3, .int s0), (0, va_rf (some a)), (1, va_rf (some x1)), (2, va_rf (some x2)), (4, .int x4), (5, .int x5), (7, .int x7), (8, .long x8), (10, .int x10)]) hM.c dL_law_172 rfl (by decide) rfl ?_
  refine V_iload hM.c 4 dL_law_173 rfl ?_
  refine V_iload hM.c 8 dL_law_175 rfl ?_
  refine V_if_eq hM.c 190 dL_law_177 (by decide) (fun c45 => ?_) (fun c45 => ?_)
  · replace h := ite_p h c45
    refine V_sub [1, 2, 3, 0, 5, 6, 7, 8] rfl ?_
    exact vl_L_law_l190 hM hz0 hκ41 h
  · replace h := ite_n h c45
    refine V_iload hM.c 4 dL_law_180 rfl ?_
    refine V_iconst (v := 4) hM.c dL_law_182 (by decide) ?_
    refine V_icmp_ge hM.c 190 dL_law_183 (by decide) (fun c46 => ?_) (fun c46 => ?_)
    · replace h := ite_p h c46
      refine V_sub [1, 2, 3, 0, 5, 6, 7, 8] rfl ?_
      exact vl_L_law_l190 hM hz0 hκ41 h
    · replace h := ite_n h c46
      refine V_iconst (v := 1) hM.c dL_law_186 (by decide) ?_
      refine V_goto hM.c 191 dL_law_187 (by decide) ?_
      refine V_sub [1, 2, 3, 0, 5, 6, 7, 8] rfl ?_
      exact vl_L_law_l191 hM hz0 hκ41 h
def f_L_law_l171 (n : Nat) (Z : Zt) (κ41 : Nat → Nat → Int32 → Int32 → Int32 → Mem → Option (Int32 × Mem)) (a : Nat) (x1 : Nat) (x2 : Nat) (x4 : Int32) (x5 : Int32) (x7 : Int32) (x8 : Int64) (x10 : Int32) (g : Mem) : Option (Int32 × Mem) := f_L_law_l172 n Z κ41 a x1 x2 x4 x5 x7 x8 x10 (0 : Int32) g
set_option maxHeartbeats 4000000 in
set_option maxRecDepth 100000 in
theorem vl_L_law_l171 {x : Cq} {n L : Nat} {xw : Nat → Int32} {Z : Zt} {κ41 : Nat → Nat → Int32 → Int32 → Int32 → Mem → Option (Int32 × Mem)} {a : Nat} {x1 : Nat} {x2 : Nat} {x4 : Int32} {x5 : Int32} {x7 : Int32} {x8 : Int64} {x10 : Int32} {g : Mem} {rr : Int32} {gg : Mem} (hM : Ml x Z a L xw rr) (hz0 : zk Z a = 0) (hκ41 : ∀ (y1 : Nat) (y2 : Nat) (y3 : Int32) (y4 : Int32) (y5 : Int32) (y : Mem), κ41 y1 y2 y3 y4 y5 y = some (rr, gg) → V x Z 1463 33792 41 [(0, va_rf (some a)), (1, va_rf (some y1)), (2, va_rf (some y2)), (3, .int y3), (4, .int y4), (5, .int y5)] [] y) (h : f_L_law_l171 n Z κ41 a x1 x2 x4 x5 x7 x8 x10 g = some (rr, gg)) : V x Z 1463 33792 171 [(0, va_rf (some a)), (1, va_rf (some x1)), (2, va_rf (some x2)), (4, .int x4), (5, .int x5), (7, .int x7), (8, .long x8), (10, .int x10)] [] g := by
  unfold f_L_law_l171 at h
  refine V_iconst (v := 0) hM.c dL_law_171 (by decide) ?_
  refine V_sub [0, 1, 2, 3, 4, 5, 6, 7] rfl ?_
  exact vl_L_law_l172 hM hz0 hκ41 h
def f_L_law_l146 (n : Nat) (Z : Zt) (κ41 : Nat → Nat → Int32 → Int32 → Int32 → Mem → Option (Int32 × Mem)) (a : Nat) (x1 : Nat) (x2 : Nat) (x3 : Int32) (x4 : Int32) (x5 : Int32) (x7 : Int32) (x8 : Int64) (s0 : Int32) (g : Mem) : Option (Int32 × Mem) := if x3 = 0 then (f_L_law_l171 n Z κ41 a x1 x2 x4 x5 x7 x8 s0 g) else (if s0 = 0 then (bnd (f_L_look n Z x1 g) (fun r41 g42 => if (lg_cmp r41 x8) = 0 then (f_L_law_l172 n Z κ41 a x1 x2 x4 x5 x7 x8 s0 (1 : Int32) g42) else (f_L_law_l171 n Z κ41 a x1 x2 x4 x5 x7 x8 s0 g42))) else (f_L_law_l172 n Z κ41 a x1 x2 x4 x5 x7 x8 s0 (1 : Int32) g))
set_option maxHeartbeats 4000000 in
set_option maxRecDepth 100000 in
theorem vl_L_law_l146 {x : Cq} {n L : Nat} {xw : Nat → Int32} {Z : Zt} {κ41 : Nat → Nat → Int32 → Int32 → Int32 → Mem → Option (Int32 × Mem)} {a : Nat} {x1 : Nat} {x2 : Nat} {x3 : Int32} {x4 : Int32} {x5 : Int32} {x7 : Int32} {x8 : Int64} {s0 : Int32} {g : Mem} {rr : Int32} {gg : Mem} (hM : Ml x Z a L xw rr) (hz0 : zk Z a = 0) (hκ41 : ∀ (y1 : Nat) (y2 : Nat) (y3 : Int32) (y4 : Int32) (y5 : Int32) (y : Mem), κ41 y1 y2 y3 y4 y5 y = some (rr, gg) → V x Z 1463 33792 41 [(0, va_rf (some a)), (1, va_rf (some y1)), (2, va_rf (some y2)), (3, .int y3), (4, .int y4), (5, .int y5)] [] y) (h : f_L_law_l146 n Z κ41 a x1 x2 x3 x4 x5 x7 x8 s0 g = some (rr, gg)) : V x Z 1463 33792 146 [(0, va_rf (some a)), (1, va_rf (some x1)), (2, va_rf (some x2)), (3, .int x3), (4, .int x4), (5, .int x5), (7, .int x7), (8, .long x8)] [.int s0] g := by
  unfold f_L_law_l146 at h
  refine V_istore (L' := [(10, .int s0), (0, va_rf (some a)), (1, va_rf (some x1)), (2, va_rf (some x2)), (3, .int x3), (4, .int x4), (5, .int x5), (7, .int x7), (8, .long x8)]) hM.c dL_law_146 (by decide) rfl ?_
  refine V_iload_n hM.c 4 dL_law_148 rfl rfl ?_
  refine V_if_eq hM.c 171 dL_law_149 (by decide) (fun c39 => ?_) (fun c39 => ?_)
  · replace h := ite_p h c39
    refine V_sub [1, 2, 3, 5, 6, 7, 8, 0] rfl ?_
    exact vl_L_law_l171 hM hz0 hκ41 h
  · replace h := ite_n h c39
    refine V_iload hM.c 0 dL_law_152 rfl ?_
    refine V_if_ne hM.c 167 dL_law_154 (by decide) (fun c40 => ?_) (fun c40 => ?_)
    · replace h := ite_n h c40
      refine V_iconst (v := 1) hM.c dL_law_167 (by decide) ?_
      refine V_goto hM.c 172 dL_law_168 (by decide) ?_
      refine V_sub [1, 2, 3, 5, 6, 7, 8, 0] rfl ?_
      exact vl_L_law_l172 hM hz0 hκ41 h
    · replace h := ite_p h c40
      refine V_aload_n hM.c 2 dL_law_157 rfl rfl ?_
      replace h := bnd_some h
      obtain ⟨r41, g42, e43, h⟩ := h
      refine V_callS (As := [va_rf (some x1)]) hM.c hM.a mq_L_look mi_L_look tw_2369 (hM.d (by decide)) hM.z (vm_L_look e43) rfl (Nat.le_of_ble_eq_true rfl) dL_law_158 ?_
      refine V_lload hM.c 8 dL_law_161 rfl ?_
      refine V_lcmp hM.c dL_law_163 ?_
      refine V_if_ne hM.c 171 dL_law_164 (by decide) (fun c44 => ?_) (fun c44 => ?_)
      · replace h := ite_n h c44
        refine V_sub [1, 2, 3, 5, 6, 7, 8, 0] rfl ?_
        exact vl_L_law_l171 hM hz0 hκ41 h
      · replace h := ite_p h c44
        refine V_iconst (v := 1) hM.c dL_law_167 (by decide) ?_
        refine V_goto hM.c 172 dL_law_168 (by decide) ?_
        refine V_sub [1, 2, 3, 5, 6, 7, 8, 0] rfl ?_
        exact vl_L_law_l172 hM hz0 hκ41 h
def f_L_law_l134 (n : Nat) (Z : Zt) (κ41 : Nat → Nat → Int32 → Int32 → Int32 → Mem → Option (Int32 × Mem)) (a : Nat) (x1 : Nat) (x2 : Nat) (x4 : Int32) (x5 : Int32) (x7 : Int32) (x8 : Int64) (s0 : Int32) (g : Mem) : Option (Int32 × Mem) := grd (zk Z x2 = 12) (grd (inr (0 : Int32) (zl Z x2)) (if (gI g x2 (0 : Int32).toNatClampNeg) < 0 then (f_L_law_l146 n Z κ41 a x1 x2 s0 x4 x5 x7 x8 (0 : Int32) g) else (f_L_law_l146 n Z κ41 a x1 x2 s0 x4 x5 x7 x8 (1 : Int32) g)))
set_option maxHeartbeats 4000000 in
set_option maxRecDepth 100000 in
theorem vl_L_law_l134 {x : Cq} {n L : Nat} {xw : Nat → Int32} {Z : Zt} {κ41 : Nat → Nat → Int32 → Int32 → Int32 → Mem → Option (Int32 × Mem)} {a : Nat} {x1 : Nat} {x2 : Nat} {x4 : Int32} {x5 : Int32} {x7 : Int32} {x8 : Int64} {s0 : Int32} {g : Mem} {rr : Int32} {gg : Mem} (hM : Ml x Z a L xw rr) (hz0 : zk Z a = 0) (hκ41 : ∀ (y1 : Nat) (y2 : Nat) (y3 : Int32) (y4 : Int32) (y5 : Int32) (y : Mem), κ41 y1 y2 y3 y4 y5 y = some (rr, gg) → V x Z 1463 33792 41 [(0, va_rf (some a)), (1, va_rf (some y1)), (2, va_rf (some y2)), (3, .int y3), (4, .int y4), (5, .int y5)] [] y) (h : f_L_law_l134 n Z κ41 a x1 x2 x4 x5 x7 x8 s0 g = some (rr, gg)) : V x Z 1463 33792 134 [(0, va_rf (some a)), (1, va_rf (some x1)), (2, va_rf (some x2)), (4, .int x4), (5, .int x5), (7, .int x7), (8, .long x8)] [.int s0] g := by
  unfold f_L_law_l134 at h
  refine V_istore_n (i := 3) (L' := [(3, .int s0), (0, va_rf (some a)), (1, va_rf (some x1)), (2, va_rf (some x2)), (4, .int x4), (5, .int x5), (7, .int x7), (8, .long x8)]) hM.c dL_law_134 rfl (by decide) rfl ?_
  refine V_aload_n hM.c 3 dL_law_135 rfl rfl ?_
  refine V_iconst (v := 0) hM.c dL_law_136 (by decide) ?_
  replace h := grd_some h
  obtain ⟨z36, h⟩ := h
  replace h := grd_some h
  obtain ⟨c37, h⟩ := h
  refine V_iald hM.c z36 c37 dL_law_137 ?_
  refine V_if_lt hM.c 145 dL_law_138 (by decide) (fun c38 => ?_) (fun c38 => ?_)
  · replace h := ite_p h c38
    refine V_iconst (v := 0) hM.c dL_law_145 (by decide) ?_
    refine V_sub [1, 2, 3, 0, 4, 5, 6, 7] rfl ?_
    exact vl_L_law_l146 hM hz0 hκ41 h
  · replace h := ite_n h c38
    refine V_iconst (v := 1) hM.c dL_law_141 (by decide) ?_
    refine V_goto hM.c 146 dL_law_142 (by decide) ?_
    refine V_sub [1, 2, 3, 0, 4, 5, 6, 7] rfl ?_
    exact vl_L_law_l146 hM hz0 hκ41 h
def f_L_law_l133 (n : Nat) (Z : Zt) (κ41 : Nat → Nat → Int32 → Int32 → Int32 → Mem → Option (Int32 × Mem)) (a : Nat) (x1 : Nat) (x2 : Nat) (x4 : Int32) (x5 : Int32) (x7 : Int32) (x8 : Int64) (g : Mem) : Option (Int32 × Mem) := f_L_law_l134 n Z κ41 a x1 x2 x4 x5 x7 x8 (0 : Int32) g
set_option maxHeartbeats 4000000 in
set_option maxRecDepth 100000 in
theorem vl_L_law_l133 {x : Cq} {n L : Nat} {xw : Nat → Int32} {Z : Zt} {κ41 : Nat → Nat → Int32 → Int32 → Int32 → Mem → Option (Int32 × Mem)} {a : Nat} {x1 : Nat} {x2 : Nat} {x4 : Int32} {x5 : Int32} {x7 : Int32} {x8 : Int64} {g : Mem} {rr : Int32} {gg : Mem} (hM : Ml x Z a L xw rr) (hz0 : zk Z a = 0) (hκ41 : ∀ (y1 : Nat) (y2 : Nat) (y3 : Int32) (y4 : Int32) (y5 : Int32) (y : Mem), κ41 y1 y2 y3 y4 y5 y = some (rr, gg) → V x Z 1463 33792 41 [(0, va_rf (some a)), (1, va_rf (some y1)), (2, va_rf (some y2)), (3, .int y3), (4, .int y4), (5, .int y5)] [] y) (h : f_L_law_l133 n Z κ41 a x1 x2 x4 x5 x7 x8 g = some (rr, gg)) : V x Z 1463 33792 133 [(0, va_rf (some a)), (1, va_rf (some x1)), (2, va_rf (some x2)), (4, .int x4), (5, .int x5), (7, .int x7), (8, .long x8)] [] g := by
  unfold f_L_law_l133 at h
  refine V_iconst (v := 0) hM.c dL_law_133 (by decide) ?_
  refine V_sub [0, 1, 2, 3, 4, 5, 6] rfl ?_
  exact vl_L_law_l134 hM hz0 hκ41 h
def f_L_law_l81 (n : Nat) (Z : Zt) (κ41 : Nat → Nat → Int32 → Int32 → Int32 → Mem → Option (Int32 × Mem)) (a : Nat) (x1 : Nat) (x2 : Nat) (x4 : Int32) (x5 : Int32) (s0 : Int32) (g : Mem) : Option (Int32 × Mem) := bnd (f_L_lot n Z a (((2 : Int32) * x5) + (1 : Int32)) g) (fun r21 g22 => bnd (f_L_look n Z x1 g22) (fun r24 g25 => bnd (f_L_acts n Z x1 x2 s0 r21 g25) (fun r27 g28 => if r27 = 0 then (f_L_law_l133 n Z κ41 a x1 x2 x4 x5 r21 r24 g28) else (if 0 < (x5 - x5 / (3 : Int32) * (3 : Int32)) then (f_L_law_l134 n Z κ41 a x1 x2 x4 x5 r21 r24 (1 : Int32) g28) else (bnd (f_L_holds n Z x1 r21 g28) (fun r32 g33 => if r32 = 0 then (f_L_law_l133 n Z κ41 a x1 x2 x4 x5 r21 r24 g33) else (f_L_law_l134 n Z κ41 a x1 x2 x4 x5 r21 r24 (1 : Int32) g33)))))))
set_option maxHeartbeats 4000000 in
set_option maxRecDepth 100000 in
theorem vl_L_law_l81 {x : Cq} {n L : Nat} {xw : Nat → Int32} {Z : Zt} {κ41 : Nat → Nat → Int32 → Int32 → Int32 → Mem → Option (Int32 × Mem)} {a : Nat} {x1 : Nat} {x2 : Nat} {x4 : Int32} {x5 : Int32} {s0 : Int32} {g : Mem} {rr : Int32} {gg : Mem} (hM : Ml x Z a L xw rr) (hz0 : zk Z a = 0) (hκ41 : ∀ (y1 : Nat) (y2 : Nat) (y3 : Int32) (y4 : Int32) (y5 : Int32) (y : Mem), κ41 y1 y2 y3 y4 y5 y = some (rr, gg) → V x Z 1463 33792 41 [(0, va_rf (some a)), (1, va_rf (some y1)), (2, va_rf (some y2)), (3, .int y3), (4, .int y4), (5, .int y5)] [] y) (h : f_L_law_l81 n Z κ41 a x1 x2 x4 x5 s0 g = some (rr, gg)) : V x Z 1463 33792 81 [(0, va_rf (some a)), (1, va_rf (some x1)), (2, va_rf (some x2)), (4, .int x4), (5, .int x5)] [.int s0] g := by
  unfold f_L_law_l81 at h
  refine V_istore (L' := [(6, .int s0), (0, va_rf (some a)), (1, va_rf (some x1)), (2, va_rf (some x2)), (4, .int x4), (5, .int x5)]) hM.c dL_law_81 (by decide) rfl ?_
  refine V_aload_n hM.c 1 dL_law_83 rfl rfl ?_
  refine V_iconst (v := 2) hM.c dL_law_84 (by decide) ?_
  refine V_iload hM.c 5 dL_law_85 rfl ?_
  refine V_imul hM.c dL_law_87 ?_
  refine V_iconst (v := 1) hM.c dL_law_88 (by decide) ?_
  refine V_iadd hM.c dL_law_89 ?_
  replace h := bnd_some h
  obtain ⟨r21, g22, e23, h⟩ := h
  refine V_lot hM e23 (Nat.le_of_ble_eq_true rfl) tw_2365 dL_law_90 ?_
  refine V_istore (L' := [(7, .int r21), (6, .int s0), (0, va_rf (some a)), (1, va_rf (some x1)), (2, va_rf (some x2)), (4, .int x4), (5, .int x5)]) hM.c dL_law_93 (by decide) rfl ?_
  refine V_aload_n hM.c 3 dL_law_95 rfl rfl ?_
  replace h := bnd_some h
  obtain ⟨r24, g25, e26, h⟩ := h
  refine V_callS (As := [va_rf (some x1)]) hM.c hM.a mq_L_look mi_L_look tw_2369 (hM.d (by decide)) hM.z (vm_L_look e26) rfl (Nat.le_of_ble_eq_true rfl) dL_law_96 ?_
  refine V_lstore (L' := [(8, .long r24), (7, .int r21), (6, .int s0), (0, va_rf (some a)), (1, va_rf (some x1)), (2, va_rf (some x2)), (4, .int x4), (5, .int x5)]) hM.c dL_law_99 (by decide) rfl ?_
  refine V_aload_n hM.c 4 dL_law_101 rfl rfl ?_
  refine V_aload_n hM.c 5 dL_law_102 rfl rfl ?_
  refine V_iload hM.c 2 dL_law_103 rfl ?_
  refine V_iload hM.c 1 dL_law_105 rfl ?_
  replace h := bnd_some h
  obtain ⟨r27, g28, e29, h⟩ := h
  refine V_callS (As := [va_rf (some x1), va_rf (some x2), .int s0, .int r21]) hM.c hM.a mq_L_acts mi_L_acts tw_2400 (hM.d (by decide)) hM.z (vm_L_acts e29) rfl (Nat.le_of_ble_eq_true rfl) dL_law_107 ?_
  refine V_if_eq hM.c 133 dL_law_110 (by decide) (fun c30 => ?_) (fun c30 => ?_)
  · replace h := ite_p h c30
    refine V_sub [3, 4, 5, 6, 7, 1, 0] rfl ?_
    exact vl_L_law_l133 hM hz0 hκ41 h
  · replace h := ite_n h c30
    refine V_iload hM.c 7 dL_law_113 rfl ?_
    refine V_iconst (v := 3) hM.c dL_law_115 (by decide) ?_
    refine V_irem hM.c dL_law_116 (by decide) ?_
    refine V_if_gt hM.c 129 dL_law_117 (by decide) (fun c31 => ?_) (fun c31 => ?_)
    · replace h := ite_p h c31
      refine V_iconst (v := 1) hM.c dL_law_129 (by decide) ?_
      refine V_goto hM.c 134 dL_law_130 (by decide) ?_
      refine V_sub [3, 4, 5, 6, 7, 1, 0] rfl ?_
      exact vl_L_law_l134 hM hz0 hκ41 h
    · replace h := ite_n h c31
      refine V_aload_n hM.c 4 dL_law_120 rfl rfl ?_
      refine V_iload hM.c 1 dL_law_121 rfl ?_
      replace h := bnd_some h
      obtain ⟨r32, g33, e34, h⟩ := h
      refine V_callS (As := [va_rf (some x1), .int r21]) hM.c hM.a mq_L_holds mi_L_holds tw_1877 (hM.d (by decide)) hM.z (vm_L_holds e34) rfl (Nat.le_of_ble_eq_true rfl) dL_law_123 ?_
      refine V_if_eq hM.c 133 dL_law_126 (by decide) (fun c35 => ?_) (fun c35 => ?_)
      · replace h := ite_p h c35
        refine V_sub [3, 4, 5, 6, 7, 1, 0] rfl ?_
        exact vl_L_law_l133 hM hz0 hκ41 h
      · replace h := ite_n h c35
        refine V_iconst (v := 1) hM.c dL_law_129 (by decide) ?_
        refine V_goto hM.c 134 dL_law_130 (by decide) ?_
        refine V_sub [3, 4, 5, 6, 7, 1, 0] rfl ?_
        exact vl_L_law_l134 hM hz0 hκ41 h
def f_L_law_l305 (n : Nat) (Z : Zt) (a : Nat) (x1 : Nat) (x3 : Int32) (g : Mem) : Option (Int32 × Mem) := if x3 = 0 then (some ((0 : Int32), g)) else (bnd (f_L_holds n Z x1 (7 : Int32) g) (fun r17 g18 => if r17 = 0 then (some ((0 : Int32), g18)) else (some ((1 : Int32), g18))))
set_option maxHeartbeats 4000000 in
set_option maxRecDepth 100000 in
theorem vl_L_law_l305 {x : Cq} {n L : Nat} {xw : Nat → Int32} {Z : Zt} {a : Nat} {x1 : Nat} {x3 : Int32} {g : Mem} {rr : Int32} {gg : Mem} (hM : Ml x Z a L xw rr) (hz0 : zk Z a = 0) (h : f_L_law_l305 n Z a x1 x3 g = some (rr, gg)) : V x Z 1463 33792 305 [(1, va_rf (some x1)), (3, .int x3)] [] g := by
  unfold f_L_law_l305 at h
  refine V_iload_n hM.c 1 dL_law_305 rfl rfl ?_
  refine V_if_eq hM.c 322 dL_law_306 (by decide) (fun c16 => ?_) (fun c16 => ?_)
  · replace h := ite_p h c16
    refine V_iconst (v := 0) hM.c dL_law_322 (by decide) ?_
    exact V_lendE hM h dL_law_323
  · replace h := ite_n h c16
    refine V_aload_n hM.c 0 dL_law_309 rfl rfl ?_
    refine V_bipush (v := 7) hM.c dL_law_310 (by decide) ?_
    replace h := bnd_some h
    obtain ⟨r17, g18, e19, h⟩ := h
    refine V_callS (As := [va_rf (some x1), .int (7 : Int32)]) hM.c hM.a mq_L_holds mi_L_holds tw_1877 (hM.d (by decide)) hM.z (vm_L_holds e19) rfl (Nat.le_of_ble_eq_true rfl) dL_law_312 ?_
    refine V_if_eq hM.c 322 dL_law_315 (by decide) (fun c20 => ?_) (fun c20 => ?_)
    · replace h := ite_p h c20
      refine V_iconst (v := 0) hM.c dL_law_322 (by decide) ?_
      exact V_lendE hM h dL_law_323
    · replace h := ite_n h c20
      refine V_iconst (v := 1) hM.c dL_law_318 (by decide) ?_
      refine V_goto hM.c 323 dL_law_319 (by decide) ?_
      exact V_lendE hM h dL_law_323
def f_L_law_l41 (n : Nat) (Z : Zt) (a : Nat) : Nat → Nat → Nat → Int32 → Int32 → Int32 → Mem → Option (Int32 × Mem)
  | 0, _, _, _, _, _, _ => none
  | fu + 1, x1, x2, x3, x4, x5, g => if (44 : Int32) ≤ x5 then (f_L_law_l305 n Z a x1 x3 g) else (if x3 = 0 then (f_L_law_l305 n Z a x1 x3 g) else (if (5 : Int32) ≤ x5 then (if x5 = (5 : Int32) then (f_L_law_l81 n Z (fun y0 y1 y2 y3 y4 y => f_L_law_l41 n Z a fu y0 y1 y2 y3 y4 y) a x1 x2 x4 x5 (12 : Int32) g) else (bnd (f_L_lot n Z a ((2 : Int32) * x5) g) (fun r13 g14 => f_L_law_l81 n Z (fun y0 y1 y2 y3 y4 y => f_L_law_l41 n Z a fu y0 y1 y2 y3 y4 y) a x1 x2 x4 x5 r13 g14))) else (f_L_law_l81 n Z (fun y0 y1 y2 y3 y4 y => f_L_law_l41 n Z a fu y0 y1 y2 y3 y4 y) a x1 x2 x4 x5 (0 : Int32) g)))
set_option maxHeartbeats 4000000 in
set_option maxRecDepth 100000 in
theorem vl_L_law_l41 {x : Cq} {n L : Nat} {xw : Nat → Int32} {Z : Zt} {a : Nat} {rr : Int32} {gg : Mem} (hM : Ml x Z a L xw rr) (hz0 : zk Z a = 0) : ∀ (fu : Nat) (x1 : Nat) (x2 : Nat) (x3 : Int32) (x4 : Int32) (x5 : Int32) (g : Mem), f_L_law_l41 n Z a fu x1 x2 x3 x4 x5 g = some (rr, gg) → V x Z 1463 33792 41 [(0, va_rf (some a)), (1, va_rf (some x1)), (2, va_rf (some x2)), (3, .int x3), (4, .int x4), (5, .int x5)] [] g := by
  intro fu
  induction fu with
  | zero => intro x1 x2 x3 x4 x5 g h; cases h
  | succ fu ih =>
    intro x1 x2 x3 x4 x5 g h
    unfold f_L_law_l41 at h
    refine V_iload hM.c 5 dL_law_41 rfl ?_
    refine V_bipush (v := 44) hM.c dL_law_43 (by decide) ?_
    refine V_icmp_ge hM.c 305 dL_law_45 (by decide) (fun c9 => ?_) (fun c9 => ?_)
    · replace h := ite_p h c9
      refine V_sub [1, 3] rfl ?_
      exact vl_L_law_l305 hM hz0  h
    · replace h := ite_n h c9
      refine V_iload_n hM.c 3 dL_law_48 rfl rfl ?_
      refine V_if_eq hM.c 305 dL_law_49 (by decide) (fun c10 => ?_) (fun c10 => ?_)
      · replace h := ite_p h c10
        refine V_sub [1, 3] rfl ?_
        exact vl_L_law_l305 hM hz0  h
      · replace h := ite_n h c10
        refine V_iload hM.c 5 dL_law_52 rfl ?_
        refine V_iconst (v := 5) hM.c dL_law_54 (by decide) ?_
        refine V_icmp_ge hM.c 62 dL_law_55 (by decide) (fun c11 => ?_) (fun c11 => ?_)
        · replace h := ite_p h c11
          refine V_iload hM.c 5 dL_law_62 rfl ?_
          refine V_iconst (v := 5) hM.c dL_law_64 (by decide) ?_
          refine V_icmp_ne hM.c 73 dL_law_65 (by decide) (fun c12 => ?_) (fun c12 => ?_)
          · replace h := ite_n h c12
            refine V_aload_n hM.c 0 dL_law_73 rfl rfl ?_
            refine V_iconst (v := 2) hM.c dL_law_74 (by decide) ?_
            refine V_iload hM.c 5 dL_law_75 rfl ?_
            refine V_imul hM.c dL_law_77 ?_
            replace h := bnd_some h
            obtain ⟨r13, g14, e15, h⟩ := h
            refine V_lot hM e15 (Nat.le_of_ble_eq_true rfl) tw_2365 dL_law_78 ?_
            refine V_sub [0, 1, 2, 4, 5] rfl ?_
            exact vl_L_law_l81 hM hz0 ih h
          · replace h := ite_p h c12
            refine V_bipush (v := 12) hM.c dL_law_68 (by decide) ?_
            refine V_goto hM.c 81 dL_law_70 (by decide) ?_
            refine V_sub [0, 1, 2, 4, 5] rfl ?_
            exact vl_L_law_l81 hM hz0 ih h
        · replace h := ite_n h c11
          refine V_iconst (v := 0) hM.c dL_law_58 (by decide) ?_
          refine V_goto hM.c 81 dL_law_59 (by decide) ?_
          refine V_sub [0, 1, 2, 4, 5] rfl ?_
          exact vl_L_law_l81 hM hz0 ih h
def f_L_law_l34 (n : Nat) (Z : Zt) (a : Nat) (x1 : Nat) (x2 : Nat) (s0 : Int32) (g : Mem) : Option (Int32 × Mem) := f_L_law_l41 n Z a n x1 x2 s0 (0 : Int32) (0 : Int32) g
set_option maxHeartbeats 4000000 in
set_option maxRecDepth 100000 in
theorem vl_L_law_l34 {x : Cq} {n L : Nat} {xw : Nat → Int32} {Z : Zt} {a : Nat} {x1 : Nat} {x2 : Nat} {s0 : Int32} {g : Mem} {rr : Int32} {gg : Mem} (hM : Ml x Z a L xw rr) (hz0 : zk Z a = 0) (h : f_L_law_l34 n Z a x1 x2 s0 g = some (rr, gg)) : V x Z 1463 33792 34 [(0, va_rf (some a)), (1, va_rf (some x1)), (2, va_rf (some x2))] [.int s0] g := by
  unfold f_L_law_l34 at h
  refine V_istore_n (i := 3) (L' := [(3, .int s0), (0, va_rf (some a)), (1, va_rf (some x1)), (2, va_rf (some x2))]) hM.c dL_law_34 rfl (by decide) rfl ?_
  refine V_iconst (v := 0) hM.c dL_law_35 (by decide) ?_
  refine V_istore (L' := [(4, .int (0 : Int32)), (3, .int s0), (0, va_rf (some a)), (1, va_rf (some x1)), (2, va_rf (some x2))]) hM.c dL_law_36 (by decide) rfl ?_
  refine V_iconst (v := 0) hM.c dL_law_38 (by decide) ?_
  refine V_istore (L' := [(5, .int (0 : Int32)), (4, .int (0 : Int32)), (3, .int s0), (0, va_rf (some a)), (1, va_rf (some x1)), (2, va_rf (some x2))]) hM.c dL_law_39 (by decide) rfl ?_
  refine V_sub [3, 4, 5, 2, 1, 0] rfl ?_
  exact vl_L_law_l41 hM hz0  _ _ _ _ _ _ _ h
def f_L_law_l33 (n : Nat) (Z : Zt) (a : Nat) (x1 : Nat) (x2 : Nat) (g : Mem) : Option (Int32 × Mem) := f_L_law_l34 n Z a x1 x2 (0 : Int32) g
set_option maxHeartbeats 4000000 in
set_option maxRecDepth 100000 in
theorem vl_L_law_l33 {x : Cq} {n L : Nat} {xw : Nat → Int32} {Z : Zt} {a : Nat} {x1 : Nat} {x2 : Nat} {g : Mem} {rr : Int32} {gg : Mem} (hM : Ml x Z a L xw rr) (hz0 : zk Z a = 0) (h : f_L_law_l33 n Z a x1 x2 g = some (rr, gg)) : V x Z 1463 33792 33 [(0, va_rf (some a)), (1, va_rf (some x1)), (2, va_rf (some x2))] [] g := by
  unfold f_L_law_l33 at h
  refine V_iconst (v := 0) hM.c dL_law_33 (by decide) ?_
  refine V_sub [0, 1, 2] rfl ?_
  exact vl_L_law_l34 hM hz0  h
def f_L_law (n : Nat) (Z : Zt) (a : Nat) (x1 : Nat) (x2 : Nat) (g : Mem) : Option (Int32 × Mem) := grd (zk Z a = 0) (bnd (f_L_holds n Z x1 (0 : Int32) g) (fun r1 g2 => if r1 = 0 then (f_L_law_l33 n Z a x1 x2 g2) else (bnd (f_X10_undo n Z x1 g2) (fun r5 g6 => if r5 = (-6 : Int32) then (f_L_law_l34 n Z a x1 x2 (1 : Int32) g6) else (f_L_law_l33 n Z a x1 x2 g6)))))
set_option maxHeartbeats 4000000 in
set_option maxRecDepth 100000 in
theorem ve_L_law {x : Cq} {n L : Nat} {xw : Nat → Int32} {Z : Zt} {a : Nat} {x1 : Nat} {x2 : Nat} {g : Mem} {rr : Int32} {gg : Mem} (hM : Ml x Z a L xw rr) (h : f_L_law n Z a x1 x2 g = some (rr, gg)) : V x Z 1463 33792 12 [(0, va_rf (some a)), (1, va_rf (some x1)), (2, va_rf (some x2))] [] g := by
  unfold f_L_law at h
  replace h := grd_some h
  obtain ⟨hz0, h⟩ := h
  refine V_aload_n hM.c 1 dL_law_12 rfl rfl ?_
  refine V_iconst (v := 0) hM.c dL_law_13 (by decide) ?_
  replace h := bnd_some h
  obtain ⟨r1, g2, e3, h⟩ := h
  refine V_callS (As := [va_rf (some x1), .int (0 : Int32)]) hM.c hM.a mq_L_holds mi_L_holds tw_1877 (hM.d (by decide)) hM.z (vm_L_holds e3) rfl (Nat.le_of_ble_eq_true rfl) dL_law_14 ?_
  refine V_if_eq hM.c 33 dL_law_17 (by decide) (fun c4 => ?_) (fun c4 => ?_)
  · replace h := ite_p h c4
    refine V_sub [0, 1, 2] rfl ?_
    exact vl_L_law_l33 hM hz0  h
  · replace h := ite_n h c4
    refine V_aload_n hM.c 1 dL_law_20 rfl rfl ?_
    replace h := bnd_some h
    obtain ⟨r5, g6, e7, h⟩ := h
    refine V_callV (As := []) (c := 8) (T := TX10) (N := 10) hM.c hM.a mq_X10_undo mi_X10_undo tw_2159 (hM.d (by decide)) hM.z rfl (by omega) (zc_X10_undo e7) (vm_X10_undo e7) rfl (Nat.le_of_ble_eq_true rfl) dL_law_21 ?_
    refine V_bipush (v := -6) hM.c dL_law_24 (by decide) ?_
    refine V_icmp_ne hM.c 33 dL_law_26 (by decide) (fun c8 => ?_) (fun c8 => ?_)
    · replace h := ite_n h c8
      refine V_sub [0, 1, 2] rfl ?_
      exact vl_L_law_l33 hM hz0  h
    · replace h := ite_p h c8
      refine V_iconst (v := 1) hM.c dL_law_29 (by decide) ?_
      refine V_goto hM.c 34 dL_law_30 (by decide) ?_
      refine V_sub [0, 1, 2] rfl ?_
      exact vl_L_law_l34 hM hz0  h
/-- what stands at the start: no cell, but the script -/
def Zs (b L : Nat) (xw : Nat → Int32) : Zt := (fun _ => 0, fun q => if q = b then L else 0, fun q j => if q = b then some (xw j).toBitVec.toNat else none)
theorem scr_Zs (b L : Nat) (xw : Nat → Int32) (j : Nat) : scr (Zs b L xw) b j = xw j := by
  unfold scr Zs zf
  simp
/-- the law, as a function of the script and of the first free address -/
def f_law (n hs b L : Nat) (xw : Nat → Int32) : Option (Int32 × Mem) :=
  bnd (fi_X10 n (hs + 1) (nO (Zs b L xw) hs 8) hs (zr ge hs)) (fun Z1 g1 => f_L_law n (nA Z1 (hs + 1462) 12 1) b hs (hs + 1462) (zr g1 (hs + 1462)))
set_option maxHeartbeats 4000000 in
set_option maxRecDepth 100000 in
theorem vlaw {x : Cq} {n hs b L : Nat} {xw : Nat → Int32} {gg : Mem} (hL : Cl x b L xw) (hhs : (xs x).heap.size = hs) (hZ : ∀ Z1 g1, fi_X10 n (hs + 1) (nO (Zs b L xw) hs 8) hs (zr ge hs) = some (Z1, g1) → zl Z1 b = L ∧ ∀ j, scr Z1 b j = xw j) (h : f_law n hs b L xw = some (1, gg)) : V x (Zs b L xw) 0 0 0 [(0, va_rf (some b))] [] ge := by
  have hC : Cx x code RL 11 := hL.1
  have hz : (xH x).size = hs := by rw [hL.2.2.2.2.1]; exact hhs
  have hb : b < hs := by rw [← hhs]; exact hL.2.2.1
  have hA : Lv x (Zs b L xw) := fun q hq => absurd rfl hq
  unfold f_law at h
  replace h := bnd_some h
  obtain ⟨Z1, g1, e1, h⟩ := h
  obtain ⟨hz1, hz2⟩ := hZ Z1 g1 e1
  refine N8 (q := hs) hC tw_1770 (by rw [hz]; rfl) (hL.r (by decide)) dL_law_0 ?_
  have hA1 := hA.nO (q := hs) (c := 8) hL.lh (by rw [hz]; exact Nat.le_refl _)
  refine V_dup hC dL_law_3 rfl ?_
  refine V_callI (As := []) hC hA1 hL.lh (hs := hs + 1) (by rw [hz]) mq_X10_init rfl tw_1775 tw_1774 (hL.d (by decide)) (hL.r (by decide)) (vm_X10_init e1) rfl (Nat.le_of_ble_eq_true rfl) dL_law_4 (fun hA2 => ?_)
  refine V_astore_n (i := 1) (L' := [(1, va_rf (some hs)), (0, va_rf (some b))]) hC dL_law_7 rfl (by decide) rfl ?_
  refine V_iconst (v := 1) hC dL_law_8 (by decide) ?_
  refine A1 (q := hs + 1462) (N := 1) hC (by decide) (by decide) (by rw [hz]) (hL.r (by decide)) dL_law_9 ?_
  have hA3 := hA2.nA (q := hs + 1462) (k := 12) (len := 1) hL.lh (by rw [hz]; exact Nat.le_add_right _ _)
  refine V_astore_n (i := 2) (L' := [(2, va_rf (some (hs + 1462))), (1, va_rf (some hs)), (0, va_rf (some b))]) hC dL_law_11 rfl (by decide) rfl ?_
  refine V_sub [2, 1, 0] rfl ?_
  refine ve_L_law (rr := 1) (gg := gg) ⟨hL, hA3, ?_, ?_, rfl⟩ h
  · rw [zl_nA, if_neg (by omega)]; exact hz1
  · intro j; unfold scr; rw [zf_nA]; exact hz2 j
